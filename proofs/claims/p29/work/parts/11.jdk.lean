def wp_Jxa1e45_init_da8c8 (h : Hp) (this : Nat) (post : Prop) : Prop :=
post
set_option maxHeartbeats 4000000 in
set_option maxRecDepth 100000 in
theorem m_Jxa1e45_init_da8c8 {E : Ev} {l : Launch} (hl : l.stackTraces = false) {h : Hp} {this : Nat} {post : Prop} (hw : wp_Jxa1e45_init_da8c8 h this post) : MT E l yJxa1e45_init_da8c8 cJxa1e45_init_da8c8 1 none 1 40 0 0 h [.ref this] (puV h post) (pxN) := by
  refine MT.of (by decide) hl (Nat.le_of_ble_eq_true rfl) (fun p e s m args below meth c C => ?_)
  unfold wp_Jxa1e45_init_da8c8 at hw
  have C : CX E p l s m args meth c cJxa1e45_init_da8c8 1 "java/util/AbstractCollection" "<init>" none [] := C
  show WS E p l e (rmOf 1 0 0 40) s m args below meth c 1 (vx_MQ below (qcP E (puV h post)) (xcP E (pxN)) args s 0 0 (bsA E)) h 0 0 0 [(0, .ref this)] []
  refine r_aload_n C dJxa1e45_init_da8c8_0 rfl rfl ?_
  refine r_objInit C w_79 w_64 w_65 (leb rfl) (leb rfl) dJxa1e45_init_da8c8_1 ?_
  exact r_vret C dJxa1e45_init_da8c8_4 (by decide) (by decide) ⟨rfl, hw, rfl⟩
theorem v_Jxa1e45_init_da8c8 : MI yJxa1e45_init_da8c8 cJxa1e45_init_da8c8 1 0 := ⟨w_78, w_77, w_38, rfl, ⟨by decide +kernel, by decide +kernel, by decide +kernel⟩⟩

def wp_Jxc12de_init_da8c8 (h : Hp) (this : Nat) (post : Hp → Prop) : Prop :=
wp_Jxa1e45_init_da8c8 h this ((hT h this = 1 ∧
 (∀ h3, h3 = sI h this 0 (0 : Int32) →
 post h3)))
set_option maxHeartbeats 4000000 in
set_option maxRecDepth 100000 in
theorem m_Jxc12de_init_da8c8 {E : Ev} {l : Launch} (hl : l.stackTraces = false) {h : Hp} {this : Nat} {post : Hp → Prop} (hw : wp_Jxc12de_init_da8c8 h this post) : MT E l yJxc12de_init_da8c8 cJxc12de_init_da8c8 1 none 2 60 0 0 h [.ref this] (poV post) (pxN) := by
  refine MT.of (by decide) hl (Nat.le_of_ble_eq_true rfl) (fun p e s m args below meth c C => ?_)
  unfold wp_Jxc12de_init_da8c8 at hw
  have C : CX E p l s m args meth c cJxc12de_init_da8c8 1 "java/util/AbstractList" "<init>" none [] := C
  show WS E p l e (rmOf 2 0 0 60) s m args below meth c 1 (vx_MQ below (qcP E (poV post)) (xcP E (pxN)) args s 0 0 (bsA E)) h 0 0 0 [(0, .ref this)] []
  refine r_aload_n C dJxc12de_init_da8c8_0 rfl rfl ?_
  refine r_callI (As := []) (st := []) C (m_Jxa1e45_init_da8c8 hl hw) v_Jxa1e45_init_da8c8 w_76 rfl ⟨leb rfl, leb rfl⟩ ⟨leb rfl, leb rfl⟩ rfl (leb rfl) dJxc12de_init_da8c8_1 (fun _ _ z => z.elim) (kpV (K := fun hK sK => WS E p l e (rmOf 2 0 0 60) s m args below meth c 1 (vx_MQ below (qcP E (poV post)) (xcP E (pxN)) args s 0 0 (bsA E)) hK (0 + 0) (0 + 0) (1 + 3) [(0, .ref this)] sK) (fun hv => ?_))
  replace hw := hv
  clear hv
  refine r_aload_n C dJxc12de_init_da8c8_4 rfl rfl ?_
  refine r_iconst (v := (0 : Int32)) C dJxc12de_init_da8c8_5 (by decide) ?_
  obtain ⟨g2, hw⟩ := hw
  obtain ⟨h3, eh3⟩ : ∃ z, z = sI h this 0 (0 : Int32) := ⟨_, rfl⟩
  replace hw := hw h3 eh3
  refine p_I C K1 ob1 g2 (by decide) 0 (by decide) w_84 (fun _ z => z) rfl (by decide +kernel) (Nat.le_of_ble_eq_true rfl) rfl dJxc12de_init_da8c8_6 eh3 ?_
  exact r_vret C dJxc12de_init_da8c8_9 (by decide) (by decide) ⟨rfl, hw⟩
theorem v_Jxc12de_init_da8c8 : MI yJxc12de_init_da8c8 cJxc12de_init_da8c8 1 0 := ⟨w_75, w_74, w_39, rfl, ⟨by decide +kernel, by decide +kernel, by decide +kernel⟩⟩

def wp_Jx4a65c_init_da8c8 (dE : Nat) (h : Hp) (this : Nat) (post : Hp → Prop) : Prop :=
wp_Jxc12de_init_da8c8 h this (fun h1 =>
 (hT h1 this = 1 ∧
 (∀ h3, h3 = sR h1 this 1 (some dE) →
 post h3)))
set_option maxHeartbeats 4000000 in
set_option maxRecDepth 100000 in
theorem m_Jx4a65c_init_da8c8 {E : Ev} {l : Launch} (hl : l.stackTraces = false) {h : Hp} {this : Nat} {post : Hp → Prop} (hw : wp_Jx4a65c_init_da8c8 (eE E) h this post) : MT E l yJx4a65c_init_da8c8 cJx4a65c_init_da8c8 1 none 3 80 0 0 h [.ref this] (poV post) (pxN) := by
  refine MT.of (by decide) hl (Nat.le_of_ble_eq_true rfl) (fun p e s m args below meth c C => ?_)
  unfold wp_Jx4a65c_init_da8c8 at hw
  have C : CX E p l s m args meth c cJx4a65c_init_da8c8 1 "java/util/ArrayList" "<init>" none [] := C
  show WS E p l e (rmOf 3 0 0 80) s m args below meth c 1 (vx_MQ below (qcP E (poV post)) (xcP E (pxN)) args s 0 0 (bsA E)) h 0 0 0 [(0, .ref this)] []
  refine r_aload_n C dJx4a65c_init_da8c8_0 rfl rfl ?_
  refine r_callI (As := []) (st := []) C (m_Jxc12de_init_da8c8 hl hw) v_Jxc12de_init_da8c8 w_73 rfl ⟨leb rfl, leb rfl⟩ ⟨leb rfl, leb rfl⟩ rfl (leb rfl) dJx4a65c_init_da8c8_1 (fun _ _ z => z.elim) (kkV (K := fun hK sK => WS E p l e (rmOf 3 0 0 80) s m args below meth c 1 (vx_MQ below (qcP E (poV post)) (xcP E (pxN)) args s 0 0 (bsA E)) hK (0 + 0) (0 + 0) (1 + 3) [(0, .ref this)] sK) (fun h1 hv => ?_))
  replace hw := hv
  clear hv
  refine r_aload_n C dJx4a65c_init_da8c8_4 rfl rfl ?_
  refine r_getsE C w_80 rfl dJx4a65c_init_da8c8_5 ?_
  obtain ⟨g2, hw⟩ := hw
  obtain ⟨h3, eh3⟩ : ∃ z, z = sR h1 this 1 (some (eE E)) := ⟨_, rfl⟩
  replace hw := hw h3 eh3
  refine p_R C K1 ob1 g2 (by decide) 1 (by decide) w_82 (fun _ z => z) rfl (some (eE E)) (fty := .array (.object "java/lang/Object")) (by decide +kernel) (Or.inr ⟨_, rfl⟩) (Nat.le_of_ble_eq_true rfl) rfl dJx4a65c_init_da8c8_8 eh3 ?_
  exact r_vret C dJx4a65c_init_da8c8_11 (by decide) (by decide) ⟨rfl, hw⟩
theorem v_Jx4a65c_init_da8c8 : MI yJx4a65c_init_da8c8 cJx4a65c_init_da8c8 1 0 := ⟨w_72, w_71, w_40, rfl, ⟨by decide +kernel, by decide +kernel, by decide +kernel⟩⟩

def wp_Jx4a65c_isEmpty_aae02 (h : Hp) (this : Nat) (post : Int32 → Prop) : Prop :=
(hT h this = 1 ∧
 (∃ x2 : Int32, hI h this 2 = x2 ∧
 (∀ J12 : Int32 → Prop, (∀ (t12_0 : Int32), (b01 t12_0 ∧
 post t12_0) → J12 t12_0) →
 ((x2 = 0 →
 J12 (1 : Int32)) ∧ (¬ (x2 = 0) →
 J12 (0 : Int32))))))
set_option maxHeartbeats 4000000 in
set_option maxRecDepth 100000 in
theorem m_Jx4a65c_isEmpty_aae02 {E : Ev} {l : Launch} (hl : l.stackTraces = false) {h : Hp} {this : Nat} {post : Int32 → Prop} (hw : wp_Jx4a65c_isEmpty_aae02 h this post) : MT E l yJx4a65c_isEmpty_aae02 cJx4a65c_isEmpty_aae02 1 (some .boolean) 0 0 0 0 h [.ref this] (puI h post) (pxN) := by
  refine MT.of (by decide) hl (Nat.le_of_ble_eq_true rfl) (fun p e s m args below meth c C => ?_)
  unfold wp_Jx4a65c_isEmpty_aae02 at hw
  have C : CX E p l s m args meth c cJx4a65c_isEmpty_aae02 1 "java/util/ArrayList" "isEmpty" (some .boolean) [] := C
  show WS E p l e (rmOf 0 0 0 0) s m args below meth c 1 (vx_MQ below (qcP E (puI h post)) (xcP E (pxN)) args s 0 0 (bsA E)) h 0 0 0 [(0, .ref this)] []
  refine r_aload_n C dJx4a65c_isEmpty_aae02_0 rfl rfl ?_
  obtain ⟨g1, hw⟩ := hw
  obtain ⟨x2, e2, hw⟩ := hw
  refine r_getI C K1 ob1 g1 (by decide) 2 (by decide) w_83 (fun _ z => z) e2 rfl dJx4a65c_isEmpty_aae02_1 ?_
  replace hw := hw (fun (t12_0 : Int32) => WS E p l e (rmOf 0 0 0 0) s m args below meth c 1 (vx_MQ below (qcP E (puI h post)) (xcP E (pxN)) args s 0 0 (bsA E)) h 0 0 12 [] [.int t12_0]) (by
    intro t12_0 hv
    replace hw := hv
    clear hv
    obtain ⟨y3, hw⟩ := hw
    exact r_zret C y3 dJx4a65c_isEmpty_aae02_12 (by decide) (by decide) ⟨_, rfl, hw, rfl⟩
    )
  refine r_if_ne C 11 dJx4a65c_isEmpty_aae02_4 (by decide) (fun z4 => ?_) (fun z4 => ?_)
  · replace hw := hw.2 z4
    refine r_iconst (v := (0 : Int32)) C dJx4a65c_isEmpty_aae02_11 (by decide) ?_
    exact (r_subk hw trivial)
  · replace hw := hw.1 z4
    refine r_iconst (v := (1 : Int32)) C dJx4a65c_isEmpty_aae02_7 (by decide) ?_
    refine r_goto C 12 dJx4a65c_isEmpty_aae02_8 (by decide) ?_
    exact (r_subk hw trivial)
theorem v_Jx4a65c_isEmpty_aae02 : MV yJx4a65c_isEmpty_aae02 cJx4a65c_isEmpty_aae02 1 (some .boolean) 0 := ⟨w_562, w_560, w_561, w_40, ⟨by decide +kernel, by decide +kernel, by decide +kernel⟩⟩

def wp_Jx4a65c_size_8abf5 (h : Hp) (this : Nat) (post : Int32 → Prop) : Prop :=
(hT h this = 1 ∧
 (∃ x2 : Int32, hI h this 2 = x2 ∧
 post x2))
set_option maxHeartbeats 4000000 in
set_option maxRecDepth 100000 in
theorem m_Jx4a65c_size_8abf5 {E : Ev} {l : Launch} (hl : l.stackTraces = false) {h : Hp} {this : Nat} {post : Int32 → Prop} (hw : wp_Jx4a65c_size_8abf5 h this post) : MT E l yJx4a65c_size_8abf5 cJx4a65c_size_8abf5 1 (some .int) 0 0 0 0 h [.ref this] (puI h post) (pxN) := by
  refine MT.of (by decide) hl (Nat.le_of_ble_eq_true rfl) (fun p e s m args below meth c C => ?_)
  unfold wp_Jx4a65c_size_8abf5 at hw
  have C : CX E p l s m args meth c cJx4a65c_size_8abf5 1 "java/util/ArrayList" "size" (some .int) [] := C
  show WS E p l e (rmOf 0 0 0 0) s m args below meth c 1 (vx_MQ below (qcP E (puI h post)) (xcP E (pxN)) args s 0 0 (bsA E)) h 0 0 0 [(0, .ref this)] []
  refine r_aload_n C dJx4a65c_size_8abf5_0 rfl rfl ?_
  obtain ⟨g1, hw⟩ := hw
  obtain ⟨x2, e2, hw⟩ := hw
  refine r_getI C K1 ob1 g1 (by decide) 2 (by decide) w_83 (fun _ z => z) e2 rfl dJx4a65c_size_8abf5_1 ?_
  exact r_iret C dJx4a65c_size_8abf5_4 (by decide) (by decide) ⟨_, rfl, hw, rfl⟩
theorem v_Jx4a65c_size_8abf5 : MV yJx4a65c_size_8abf5 cJx4a65c_size_8abf5 1 (some .int) 0 := ⟨w_368, w_366, w_367, w_40, ⟨by decide +kernel, by decide +kernel, by decide +kernel⟩⟩

def wp_J8_newLength_cabcc (h : Hp) (p0 : Int32) (p1 : Int32) (p2 : Int32) (post : Int32 → Prop) : Prop :=
(∀ x1 : Int32, x1 = (if p1 < p2 then p2 else p1) →
 (∀ J21 : Prop, ((False) → J21) →
 (((p0 + x1) ≤ (0 : Int32) →
 J21) ∧ (¬ ((p0 + x1) ≤ (0 : Int32)) →
 (((2147483639 : Int32) < (p0 + x1) →
 J21) ∧ (¬ ((2147483639 : Int32) < (p0 + x1)) →
 post (p0 + x1)))))))
set_option maxHeartbeats 4000000 in
set_option maxRecDepth 100000 in
theorem m_J8_newLength_cabcc {E : Ev} {l : Launch} (hl : l.stackTraces = false) {h : Hp} {p0 : Int32} {p1 : Int32} {p2 : Int32} {post : Int32 → Prop} (hw : wp_J8_newLength_cabcc h p0 p1 p2 post) : MT E l yJ8_newLength_cabcc cJ8_newLength_cabcc 4 (some .int) 1 40 0 0 h [.int p0, .int p1, .int p2] (puI h post) (pxN) := by
  refine MT.of (by decide) hl (Nat.le_of_ble_eq_true rfl) (fun p e s m args below meth c C => ?_)
  unfold wp_J8_newLength_cabcc at hw
  have C : CX E p l s m args meth c cJ8_newLength_cabcc 4 "jdk/internal/util/ArraysSupport" "newLength" (some .int) [] := C
  show WS E p l e (rmOf 1 0 0 40) s m args below meth c 4 (vx_MQ below (qcP E (puI h post)) (xcP E (pxN)) args s 0 0 (bsA E)) h 0 0 0 [(0, .int p0), (1, .int p1), (2, .int p2)] []
  refine r_iload_n C dJ8_newLength_cabcc_0 rfl rfl ?_
  refine r_iload_n C dJ8_newLength_cabcc_1 rfl rfl ?_
  refine r_iload_n C dJ8_newLength_cabcc_2 rfl rfl ?_
  refine r_mmax C w_278 w_279 w_50 w_280 (leb rfl) (leb rfl) (by decide) (by decide) dJ8_newLength_cabcc_3 ?_
  obtain ⟨x1, e1⟩ : ∃ z : Int32, z = (if p1 < p2 then p2 else p1) := ⟨_, rfl⟩
  replace hw := hw x1 e1
  rw [← e1]
  refine r_iadd C dJ8_newLength_cabcc_6 ?_
  refine r_istore_n C dJ8_newLength_cabcc_7 rfl (by decide) [(0, .int p0), (1, .int p1), (3, .int (p0 + x1))] ⟨rfl, rfl, rfl, trivial⟩ ?_
  refine r_iconst (v := (0 : Int32)) C dJ8_newLength_cabcc_8 (by decide) ?_
  refine r_iload_n C dJ8_newLength_cabcc_9 rfl rfl ?_
  replace hw := hw (WS E p l e (rmOf 1 0 0 40) s m args below meth c 4 (vx_MQ below (qcP E (puI h post)) (xcP E (pxN)) args s 0 0 (bsA E)) h 0 0 21 [(0, .int p0), (1, .int p1)] []) (by
    intro hv
    replace hw := hv
    clear hv
    refine r_iload_n C dJ8_newLength_cabcc_21 rfl rfl ?_
    refine r_iload_n C dJ8_newLength_cabcc_22 rfl rfl ?_
    exact hw.elim
    )
  refine r_icmp_ge C 21 dJ8_newLength_cabcc_10 (by decide) (fun z2 => ?_) (fun z2 => ?_)
  · replace hw := hw.1 z2
    exact (r_subk hw ⟨rfl, rfl, trivial⟩)
  · replace hw := hw.2 z2
    refine r_iload_n C dJ8_newLength_cabcc_13 rfl rfl ?_
    refine r_ldc C w_281 dJ8_newLength_cabcc_14 ?_
    refine r_icmp_gt C 21 dJ8_newLength_cabcc_16 (by decide) (fun z3 => ?_) (fun z3 => ?_)
    · replace hw := hw.1 z3
      exact (r_subk hw ⟨rfl, rfl, trivial⟩)
    · replace hw := hw.2 z3
      refine r_iload_n C dJ8_newLength_cabcc_19 rfl rfl ?_
      exact r_iret C dJ8_newLength_cabcc_20 (by decide) (by decide) ⟨_, rfl, hw, rfl⟩
theorem v_J8_newLength_cabcc : MS yJ8_newLength_cabcc cJ8_newLength_cabcc 4 (some .int) 3 := ⟨w_277, w_276, w_49, ⟨by decide +kernel, by decide +kernel, by decide +kernel⟩⟩

def wp_J7_copyOf_6403c (mc ms : Nat) (h : Hp) (p0 : Nat) (p1 : Int32) (post : Nat → Hp → Prop) : Prop :=
(∃ j1 : Nat, p1 = nI j1 ∧ j1 < 134217728 ∧
 (1 ≤ mc ∧
 (0 + j1 ≤ ms ∧
 (∀ q1 : Nat, hT h q1 = 0 →
 (∀ h3, h3 = sN h q1 26 j1 →
 ((hT h3 p0 = 26 ∨ hT h3 p0 = 27) ∧
 (∃ n5 : Nat, hL h3 p0 = n5 ∧
 (∀ x6 : Int32, x6 = (if p1 < (nI n5) then p1 else (nI n5)) →
 (hT h3 p0 = 26 ∧
 (∃ js8 : Nat, (0 : Int32) = nI js8 ∧ js8 < 2147483648 ∧
 (∃ jd8 : Nat, (0 : Int32) = nI jd8 ∧ jd8 < 2147483648 ∧
 (∃ jn8 : Nat, x6 = nI jn8 ∧ jn8 < 2147483648 ∧
 (js8 + jn8 ≤ hL h3 p0 ∧
 (jd8 + jn8 ≤ hL h3 q1 ∧
 ((∀ i : Nat, i < jn8 → ∀ y : Nat, hR h3 p0 (js8 + i) = some y → hT h3 y = 2 ∨ hT h3 y = 3 ∨ hT h3 y = 5 ∨ hT h3 y = 6) ∧
 (∀ h9, h9 = sA h3 q1 (va_cpy (hR h3 p0) (hR h3 q1) js8 jd8 jn8) →
 post q1 h9))))))))))))))))
set_option maxHeartbeats 4000000 in
set_option maxRecDepth 100000 in
theorem m_J7_copyOf_6403c {E : Ev} {l : Launch} (hl : l.stackTraces = false) {mc ms : Nat} {h : Hp} {p0 : Nat} {p1 : Int32} {post : Nat → Hp → Prop} (hw : wp_J7_copyOf_6403c mc ms h p0 p1 post) : MT E l yJ7_copyOf_6403c cJ7_copyOf_6403c 4 (some (.array (.object "java/lang/Object"))) 1 40 mc ms h [.ref p0, .int p1, .ref (eM E)] (poA post) (pxN) := by
  refine MT.of (by decide) hl (Nat.le_of_ble_eq_true rfl) (fun p e s m args below meth c C => ?_)
  unfold wp_J7_copyOf_6403c at hw
  have C : CX E p l s m args meth c cJ7_copyOf_6403c 4 "java/util/Arrays" "copyOf" (some (.array (.object "java/lang/Object"))) [] := C
  show WS E p l e (rmOf 1 mc ms 40) s m args below meth c 4 (vx_MQ below (qcP E (poA post)) (xcP E (pxN)) args s mc ms (bsA E)) h 0 0 0 [(0, .ref p0), (1, .int p1), (2, .ref (eM E))] []
  refine r_aload_n C dJ7_copyOf_6403c_0 rfl rfl ?_
  refine r_ldcM C w_305 dJ7_copyOf_6403c_1 ?_
  refine r_acmp_ne (rx := some (eM E)) (ry := some (eM E)) C 13 dJ7_copyOf_6403c_3 (by decide) (fun z => absurd rfl z) (fun _ => ?_)
  refine r_iload_n C dJ7_copyOf_6403c_6 rfl rfl ?_
  obtain ⟨j1, f1, l1, hw⟩ := hw
  have k1 : ¬ p1 < 0 := by rw [f1]; exact nI_pos (by omega)
  have m1 : (p1).toNatClampNeg = j1 := by rw [f1]; exact nI_clamp (by omega)
  obtain ⟨b2, d2, hw⟩ := hw
  refine r_anew (N := j1) (t := 26) (t0 := 6) C w_307 (by decide +kernel) rfl ar26 (by decide) k1 m1 (by omega) b2 d2 dJ7_copyOf_6403c_7 (fun q1 z1 => ?_)
  replace hw := hw q1 z1
  obtain ⟨h3, eh3⟩ : ∃ z, z = sN h q1 26 j1 := ⟨_, rfl⟩
  replace hw := hw h3 eh3
  rw [← eh3]
  have g4 : hT h3 q1 = 26 := by rw [eh3]; exact tag_new
  refine r_goto C 24 dJ7_copyOf_6403c_10 (by decide) ?_
  refine r_astore_n C dJ7_copyOf_6403c_24 rfl (by decide) [(0, .ref p0), (1, .int p1), (3, .ref q1)] ⟨rfl, rfl, rfl, trivial⟩ ?_
  refine r_aload_n C dJ7_copyOf_6403c_25 rfl rfl ?_
  refine r_iconst (v := (0 : Int32)) C dJ7_copyOf_6403c_26 (by decide) ?_
  refine r_aload_n C dJ7_copyOf_6403c_27 rfl rfl ?_
  refine r_iconst (v := (0 : Int32)) C dJ7_copyOf_6403c_28 (by decide) ?_
  refine r_aload_n C dJ7_copyOf_6403c_29 rfl rfl ?_
  obtain ⟨g5, hw⟩ := hw
  obtain ⟨n5, e5, hw⟩ := hw
  refine a_lenO C g5 e5 dJ7_copyOf_6403c_30 ?_
  refine r_iload_n C dJ7_copyOf_6403c_31 rfl rfl ?_
  refine r_mmin C w_308 w_246 w_50 w_247 (leb rfl) (leb rfl) b2 d2 dJ7_copyOf_6403c_32 ?_
  obtain ⟨x6, e6⟩ : ∃ z : Int32, z = (if p1 < (nI n5) then p1 else (nI n5)) := ⟨_, rfl⟩
  replace hw := hw x6 e6
  rw [← e6]
  obtain ⟨g7, hw⟩ := hw
  obtain ⟨js8, fjs8, ljs8, hw⟩ := hw
  obtain ⟨jd8, fjd8, ljd8, hw⟩ := hw
  obtain ⟨jn8, fjn8, ljn8, hw⟩ := hw
  obtain ⟨b18, b28, b38, hw⟩ := hw
  have cjs8 : (nI js8).toNatClampNeg = js8 := nI_clamp (by omega)
  have cjd8 : (nI jd8).toNatClampNeg = jd8 := nI_clamp (by omega)
  have cjn8 : (nI jn8).toNatClampNeg = jn8 := nI_clamp (by omega)
  refine r_st (st' := [.int (nI jn8), .int (nI jd8), .ref q1, .int (nI js8), .ref p0]) (by rw [← fjs8, ← fjd8, ← fjn8]) ?_
  obtain ⟨h9, eh9⟩ : ∃ z, z = sA h3 q1 (va_cpy (hR h3 p0) (hR h3 q1) js8 jd8 jn8) := ⟨_, rfl⟩
  replace hw := hw h9 eh9
  refine r_copy C w_309 w_311 w_310 w_52 g7 g4 (nI_pos (by omega)) (nI_pos (by omega)) (nI_pos (by omega)) (by rw [cjs8, cjn8]; exact b18) (by rw [cjd8, cjn8]; exact b28) (by rw [cjn8, cjs8]; exact b38) (leb rfl) (leb rfl) dJ7_copyOf_6403c_35 ?_
  rw [cjs8, cjd8, cjn8, ← eh9]
  refine r_aload_n C dJ7_copyOf_6403c_38 rfl rfl ?_
  exact r_aret (r := some q1) C (Or.inr ⟨_, rfl⟩) dJ7_copyOf_6403c_39 b2 d2 ⟨_, rfl, hw⟩
theorem v_J7_copyOf_6403c : MS yJ7_copyOf_6403c cJ7_copyOf_6403c 4 (some (.array (.object "java/lang/Object"))) 3 := ⟨w_304, w_303, w_51, ⟨by decide +kernel, by decide +kernel, by decide +kernel⟩⟩

def wp_J7_copyOf_1904c (mc ms : Nat) (h : Hp) (p0 : Nat) (p1 : Int32) (post : Nat → Hp → Prop) : Prop :=
(hT h p0 = 26 ∧
 (∃ k2 n2 : Nat,
 (0 + k2 ≤ mc ∧
 (0 + n2 ≤ ms ∧
 wp_J7_copyOf_6403c k2 n2 h p0 p1 (fun a2 h2 =>
 post a2 h2)))))
set_option maxHeartbeats 4000000 in
set_option maxRecDepth 100000 in
theorem m_J7_copyOf_1904c {E : Ev} {l : Launch} (hl : l.stackTraces = false) {mc ms : Nat} {h : Hp} {p0 : Nat} {p1 : Int32} {post : Nat → Hp → Prop} (hw : wp_J7_copyOf_1904c mc ms h p0 p1 post) : MT E l yJ7_copyOf_1904c cJ7_copyOf_1904c 2 (some (.array (.object "java/lang/Object"))) 2 63 mc ms h [.ref p0, .int p1] (poA post) (pxN) := by
  refine MT.of (by decide) hl (Nat.le_of_ble_eq_true rfl) (fun p e s m args below meth c C => ?_)
  unfold wp_J7_copyOf_1904c at hw
  have C : CX E p l s m args meth c cJ7_copyOf_1904c 2 "java/util/Arrays" "copyOf" (some (.array (.object "java/lang/Object"))) [] := C
  show WS E p l e (rmOf 2 mc ms 63) s m args below meth c 2 (vx_MQ below (qcP E (poA post)) (xcP E (pxN)) args s mc ms (bsA E)) h 0 0 0 [(0, .ref p0), (1, .int p1)] []
  refine r_aload_n C dJ7_copyOf_1904c_0 rfl rfl ?_
  refine r_iload_n C dJ7_copyOf_1904c_1 rfl rfl ?_
  refine r_aload_n C dJ7_copyOf_1904c_2 rfl rfl ?_
  obtain ⟨g1, hw⟩ := hw
  refine r_getC C g1 w_288 w_787 w_289 w_301 (leb rfl) (leb rfl) dJ7_copyOf_1904c_3 ?_
  obtain ⟨k2, n2, hw⟩ := hw
  obtain ⟨b3, d3, hw⟩ := hw
  refine r_callS (As := [.ref p0, .int p1, .ref (eM E)]) (st := []) C (m_J7_copyOf_6403c hl hw) v_J7_copyOf_6403c w_302 rfl ⟨leb rfl, leb rfl⟩ ⟨b3, d3⟩ rfl (leb rfl) dJ7_copyOf_1904c_6 (fun _ _ z => z.elim) (kkA (K := fun hK sK => WS E p l e (rmOf 2 mc ms 63) s m args below meth c 2 (vx_MQ below (qcP E (poA post)) (xcP E (pxN)) args s mc ms (bsA E)) hK (0 + k2) (0 + n2) (6 + 3) [(0, .ref p0), (1, .int p1)] sK) (fun a2 h2 hv => ?_))
  replace hw := hv
  clear hv
  exact r_aret (r := some a2) C (Or.inr ⟨_, rfl⟩) dJ7_copyOf_1904c_9 b3 d3 ⟨_, rfl, hw⟩
theorem v_J7_copyOf_1904c : MS yJ7_copyOf_1904c cJ7_copyOf_1904c 2 (some (.array (.object "java/lang/Object"))) 2 := ⟨w_287, w_286, w_51, ⟨by decide +kernel, by decide +kernel, by decide +kernel⟩⟩

def wp_Jx4a65c_grow_92f84 (dE : Nat) (mc ms : Nat) (h : Hp) (this : Nat) (p0 : Int32) (post : Nat → Hp → Prop) : Prop :=
(hT h this = 1 ∧
 (∃ a2 : Nat, hR h this 1 = some a2 ∧
 ((hT h a2 = 26 ∨ hT h a2 = 27) ∧
 (∃ n3 : Nat, hL h a2 = n3 ∧
 (∀ J20 : Prop, ((wp_J8_newLength_cabcc h (nI n3) (p0 - (nI n3)) ((nI n3) >>> ((1 : Int32) &&& 31)) (fun x4 =>
 (∃ a5 : Nat, hR h this 1 = some a5 ∧
 (∃ k6 n6 : Nat,
 (0 + k6 ≤ mc ∧
 (0 + n6 ≤ ms ∧
 wp_J7_copyOf_1904c k6 n6 h a5 x4 (fun a6 h6 =>
 (hT h6 this = 1 ∧
 (∀ h9, h9 = sR h6 this 1 (some a6) →
 post a6 h9))))))))) → J20) →
 ((0 < (nI n3) →
 J20) ∧ (¬ (0 < (nI n3)) →
 (∃ a11 : Nat, hR h this 1 = some a11 ∧
 ((some a11 = some dE →
 (∀ x13 : Int32, x13 = (if (10 : Int32) < p0 then p0 else (10 : Int32)) →
 (∃ j14 : Nat, x13 = nI j14 ∧ j14 < 134217728 ∧
 (1 ≤ mc ∧
 (0 + j14 ≤ ms ∧
 (∀ q14 : Nat, hT h q14 = 0 →
 (∀ h16, h16 = sN h q14 26 j14 →
 (∀ h19, h19 = sR h16 this 1 (some q14) →
 post q14 h19)))))))) ∧ (¬ (some a11 = some dE) →
 J20))))))))))
set_option maxHeartbeats 4000000 in
set_option maxRecDepth 100000 in
theorem m_Jx4a65c_grow_92f84 {E : Ev} {l : Launch} (hl : l.stackTraces = false) {mc ms : Nat} {h : Hp} {this : Nat} {p0 : Int32} {post : Nat → Hp → Prop} (hw : wp_Jx4a65c_grow_92f84 (eE E) mc ms h this p0 post) : MT E l yJx4a65c_grow_92f84 cJx4a65c_grow_92f84 4 (some (.array (.object "java/lang/Object"))) 3 84 mc ms h [.ref this, .int p0] (poA post) (pxN) := by
  refine MT.of (by decide) hl (Nat.le_of_ble_eq_true rfl) (fun p e s m args below meth c C => ?_)
  unfold wp_Jx4a65c_grow_92f84 at hw
  have C : CX E p l s m args meth c cJx4a65c_grow_92f84 4 "java/util/ArrayList" "grow" (some (.array (.object "java/lang/Object"))) [] := C
  show WS E p l e (rmOf 3 mc ms 84) s m args below meth c 4 (vx_MQ below (qcP E (poA post)) (xcP E (pxN)) args s mc ms (bsA E)) h 0 0 0 [(0, .ref this), (1, .int p0)] []
  refine r_aload_n C dJx4a65c_grow_92f84_0 rfl rfl ?_
  obtain ⟨g1, hw⟩ := hw
  obtain ⟨a2, e2, hw⟩ := hw
  refine r_getA C K1 ob1 g1 (by decide) 1 (by decide) w_82 (fun _ z => z) e2 rfl dJx4a65c_grow_92f84_1 ?_
  obtain ⟨g3, hw⟩ := hw
  obtain ⟨n3, e3, hw⟩ := hw
  refine a_lenO C g3 e3 dJx4a65c_grow_92f84_4 ?_
  refine r_istore_n C dJx4a65c_grow_92f84_5 rfl (by decide) [(0, .ref this), (1, .int p0), (2, .int (nI n3))] ⟨rfl, rfl, rfl, trivial⟩ ?_
  refine r_iload_n C dJx4a65c_grow_92f84_6 rfl rfl ?_
  replace hw := hw (WS E p l e (rmOf 3 mc ms 84) s m args below meth c 4 (vx_MQ below (qcP E (poA post)) (xcP E (pxN)) args s mc ms (bsA E)) h 0 0 20 [(0, .ref this), (1, .int p0), (2, .int (nI n3))] []) (by
    intro hv
    replace hw := hv
    clear hv
    refine r_iload_n C dJx4a65c_grow_92f84_20 rfl rfl ?_
    refine r_iload_n C dJx4a65c_grow_92f84_21 rfl rfl ?_
    refine r_iload_n C dJx4a65c_grow_92f84_22 rfl rfl ?_
    refine r_isub C dJx4a65c_grow_92f84_23 ?_
    refine r_iload_n C dJx4a65c_grow_92f84_24 rfl rfl ?_
    refine r_iconst (v := (1 : Int32)) C dJx4a65c_grow_92f84_25 (by decide) ?_
    refine r_ishr C dJx4a65c_grow_92f84_26 ?_
    refine r_callS (As := [.int (nI n3), .int (p0 - (nI n3)), .int ((nI n3) >>> ((1 : Int32) &&& 31))]) (st := []) C (m_J8_newLength_cabcc hl hw) v_J8_newLength_cabcc w_275 rfl ⟨leb rfl, leb rfl⟩ ⟨(Nat.zero_le _), (Nat.zero_le _)⟩ rfl (leb rfl) dJx4a65c_grow_92f84_27 (fun _ _ z => z.elim) (kpI (K := fun hK sK => WS E p l e (rmOf 3 mc ms 84) s m args below meth c 4 (vx_MQ below (qcP E (poA post)) (xcP E (pxN)) args s mc ms (bsA E)) hK (0) (0) (27 + 3) [(0, .ref this), (1, .int p0), (2, .int (nI n3))] sK) (fun x4 hv => ?_))
    replace hw := hv
    clear hv
    refine r_istore_n C dJx4a65c_grow_92f84_30 rfl (by decide) [(0, .ref this), (3, .int x4)] ⟨rfl, rfl, trivial⟩ ?_
    refine r_aload_n C dJx4a65c_grow_92f84_31 rfl rfl ?_
    refine r_aload_n C dJx4a65c_grow_92f84_32 rfl rfl ?_
    obtain ⟨a5, e5, hw⟩ := hw
    refine r_getA C K1 ob1 g1 (by decide) 1 (by decide) w_82 (fun _ z => z) e5 rfl dJx4a65c_grow_92f84_33 ?_
    refine r_iload_n C dJx4a65c_grow_92f84_36 rfl rfl ?_
    obtain ⟨k6, n6, hw⟩ := hw
    obtain ⟨b7, d7, hw⟩ := hw
    refine r_callS (As := [.ref a5, .int x4]) (st := [.ref this]) C (m_J7_copyOf_1904c hl hw) v_J7_copyOf_1904c w_285 rfl ⟨leb rfl, leb rfl⟩ ⟨b7, d7⟩ rfl (leb rfl) dJx4a65c_grow_92f84_37 (fun _ _ z => z.elim) (kkA (K := fun hK sK => WS E p l e (rmOf 3 mc ms 84) s m args below meth c 4 (vx_MQ below (qcP E (poA post)) (xcP E (pxN)) args s mc ms (bsA E)) hK (0 + k6) (0 + n6) (37 + 3) [(0, .ref this), (3, .int x4)] sK) (fun a6 h6 hv => ?_))
    replace hw := hv
    clear hv
    refine r_dup_x1 C dJx4a65c_grow_92f84_40 rfl rfl ?_
    obtain ⟨g8, hw⟩ := hw
    obtain ⟨h9, eh9⟩ : ∃ z, z = sR h6 this 1 (some a6) := ⟨_, rfl⟩
    replace hw := hw h9 eh9
    refine p_R C K1 ob1 g8 (by decide) 1 (by decide) w_82 (fun _ z => z) rfl (some a6) (fty := .array (.object "java/lang/Object")) (by decide +kernel) (Or.inr ⟨_, rfl⟩) (Nat.le_of_ble_eq_true rfl) rfl dJx4a65c_grow_92f84_41 eh9 ?_
    exact r_aret (r := some a6) C (Or.inr ⟨_, rfl⟩) dJx4a65c_grow_92f84_44 b7 d7 ⟨_, rfl, hw⟩
    )
  refine r_if_gt C 20 dJx4a65c_grow_92f84_7 (by decide) (fun z10 => ?_) (fun z10 => ?_)
  · replace hw := hw.1 z10
    exact (r_subk hw ⟨rfl, rfl, rfl, trivial⟩)
  · replace hw := hw.2 z10
    refine r_aload_n C dJx4a65c_grow_92f84_10 rfl rfl ?_
    obtain ⟨a11, e11, hw⟩ := hw
    refine r_getA C K1 ob1 g1 (by decide) 1 (by decide) w_82 (fun _ z => z) e11 rfl dJx4a65c_grow_92f84_11 ?_
    refine r_getsE C w_80 rfl dJx4a65c_grow_92f84_14 ?_
    refine r_acmp_eq (rx := some a11) (ry := some (eE E)) C 45 dJx4a65c_grow_92f84_17 (by decide) (fun z12 => ?_) (fun z12 => ?_)
    · replace hw := hw.1 z12
      refine r_aload_n C dJx4a65c_grow_92f84_45 rfl rfl ?_
      refine r_bipush (v := (10 : Int32)) C dJx4a65c_grow_92f84_46 (by decide) ?_
      refine r_iload_n C dJx4a65c_grow_92f84_48 rfl rfl ?_
      refine r_mmax C w_312 w_279 w_50 w_280 (leb rfl) (leb rfl) (Nat.zero_le _) (Nat.zero_le _) dJx4a65c_grow_92f84_49 ?_
      obtain ⟨x13, e13⟩ : ∃ z : Int32, z = (if (10 : Int32) < p0 then p0 else (10 : Int32)) := ⟨_, rfl⟩
      replace hw := hw x13 e13
      rw [← e13]
      obtain ⟨j14, f14, l14, hw⟩ := hw
      have k14 : ¬ x13 < 0 := by rw [f14]; exact nI_pos (by omega)
      have m14 : (x13).toNatClampNeg = j14 := by rw [f14]; exact nI_clamp (by omega)
      obtain ⟨b15, d15, hw⟩ := hw
      refine r_anew (N := j14) (t := 26) (t0 := 6) C w_313 (by decide +kernel) rfl ar26 (by decide) k14 m14 (by omega) b15 d15 dJx4a65c_grow_92f84_52 (fun q14 z14 => ?_)
      replace hw := hw q14 z14
      obtain ⟨h16, eh16⟩ : ∃ z, z = sN h q14 26 j14 := ⟨_, rfl⟩
      replace hw := hw h16 eh16
      rw [← eh16]
      have g17 : hT h16 q14 = 26 := by rw [eh16]; exact tag_new
      refine r_dup_x1 C dJx4a65c_grow_92f84_55 rfl rfl ?_
      have g18 : hT h16 this = 1 := by rw [eh16]; exact tag_sN z14 g1 (by decide)
      obtain ⟨h19, eh19⟩ : ∃ z, z = sR h16 this 1 (some q14) := ⟨_, rfl⟩
      replace hw := hw h19 eh19
      refine p_R C K1 ob1 g18 (by decide) 1 (by decide) w_82 (fun _ z => z) rfl (some q14) (fty := .array (.object "java/lang/Object")) (by decide +kernel) (Or.inr ⟨_, rfl⟩) (Nat.le_of_ble_eq_true rfl) rfl dJx4a65c_grow_92f84_56 eh19 ?_
      exact r_aret (r := some q14) C (Or.inr ⟨_, rfl⟩) dJx4a65c_grow_92f84_59 b15 d15 ⟨_, rfl, hw⟩
    · replace hw := hw.2 z12
      exact (r_subk hw ⟨rfl, rfl, rfl, trivial⟩)
theorem v_Jx4a65c_grow_92f84 : MV yJx4a65c_grow_92f84 cJx4a65c_grow_92f84 4 (some (.array (.object "java/lang/Object"))) 1 := ⟨w_274, w_273, w_9, w_40, ⟨by decide +kernel, by decide +kernel, by decide +kernel⟩⟩

def wp_Jx4a65c_grow_d5877 (dE : Nat) (mc ms : Nat) (h : Hp) (this : Nat) (post : Nat → Hp → Prop) : Prop :=
(hT h this = 1 ∧
 (∃ x2 : Int32, hI h this 2 = x2 ∧
 (∃ k3 n3 : Nat,
 (0 + k3 ≤ mc ∧
 (0 + n3 ≤ ms ∧
 wp_Jx4a65c_grow_92f84 dE k3 n3 h this (x2 + (1 : Int32)) (fun a3 h3 =>
 post a3 h3))))))
set_option maxHeartbeats 4000000 in
set_option maxRecDepth 100000 in
theorem m_Jx4a65c_grow_d5877 {E : Ev} {l : Launch} (hl : l.stackTraces = false) {mc ms : Nat} {h : Hp} {this : Nat} {post : Nat → Hp → Prop} (hw : wp_Jx4a65c_grow_d5877 (eE E) mc ms h this post) : MT E l yJx4a65c_grow_d5877 cJx4a65c_grow_d5877 1 (some (.array (.object "java/lang/Object"))) 4 107 mc ms h [.ref this] (poA post) (pxN) := by
  refine MT.of (by decide) hl (Nat.le_of_ble_eq_true rfl) (fun p e s m args below meth c C => ?_)
  unfold wp_Jx4a65c_grow_d5877 at hw
  have C : CX E p l s m args meth c cJx4a65c_grow_d5877 1 "java/util/ArrayList" "grow" (some (.array (.object "java/lang/Object"))) [] := C
  show WS E p l e (rmOf 4 mc ms 107) s m args below meth c 1 (vx_MQ below (qcP E (poA post)) (xcP E (pxN)) args s mc ms (bsA E)) h 0 0 0 [(0, .ref this)] []
  refine r_aload_n C dJx4a65c_grow_d5877_0 rfl rfl ?_
  refine r_aload_n C dJx4a65c_grow_d5877_1 rfl rfl ?_
  obtain ⟨g1, hw⟩ := hw
  obtain ⟨x2, e2, hw⟩ := hw
  refine r_getI C K1 ob1 g1 (by decide) 2 (by decide) w_83 (fun _ z => z) e2 rfl dJx4a65c_grow_d5877_2 ?_
  refine r_iconst (v := (1 : Int32)) C dJx4a65c_grow_d5877_5 (by decide) ?_
  refine r_iadd C dJx4a65c_grow_d5877_6 ?_
  obtain ⟨k3, n3, hw⟩ := hw
  obtain ⟨b4, d4, hw⟩ := hw
  refine r_callV (As := [.int (x2 + (1 : Int32))]) (st := []) C (m_Jx4a65c_grow_92f84 hl hw) v_Jx4a65c_grow_92f84 w_271 K1 g1 (by decide) ob1 rfl ⟨leb rfl, leb rfl⟩ ⟨b4, d4⟩ rfl (leb rfl) dJx4a65c_grow_d5877_7 (fun _ _ z => z.elim) (kkA (K := fun hK sK => WS E p l e (rmOf 4 mc ms 107) s m args below meth c 1 (vx_MQ below (qcP E (poA post)) (xcP E (pxN)) args s mc ms (bsA E)) hK (0 + k3) (0 + n3) (7 + 3) [(0, .ref this)] sK) (fun a3 h3 hv => ?_))
  replace hw := hv
  clear hv
  exact r_aret (r := some a3) C (Or.inr ⟨_, rfl⟩) dJx4a65c_grow_d5877_10 b4 d4 ⟨_, rfl, hw⟩
theorem v_Jx4a65c_grow_d5877 : MV yJx4a65c_grow_d5877 cJx4a65c_grow_d5877 1 (some (.array (.object "java/lang/Object"))) 0 := ⟨w_270, w_269, w_8, w_40, ⟨by decide +kernel, by decide +kernel, by decide +kernel⟩⟩

def wp_Jx4a65c_add_72be8 (dE : Nat) (mc ms : Nat) (h : Hp) (this : Nat) (p0 : Nat) (p1 : Nat) (p2 : Int32) (post : Hp → Prop) : Prop :=
((hT h p1 = 26 ∨ hT h p1 = 27) ∧
 (∃ n1 : Nat, hL h p1 = n1 ∧
 (∀ J11 : Nat → Hp → Nat → Nat → Prop, (∀ (v11_2 : Nat) (h11_ : Hp) (c11 : Nat) (s11 : Nat), (hT h11_ v11_2 = 26 ∧
 (∃ j3 : Nat, p2 = nI j3 ∧ j3 < 2147483648 ∧ j3 < hL h11_ v11_2 ∧
 ((hT h11_ p0 = 2 ∨ hT h11_ p0 = 3 ∨ hT h11_ p0 = 5 ∨ hT h11_ p0 = 6) ∧
 (∀ h5, h5 = sR h11_ v11_2 j3 (some p0) →
 (hT h5 this = 1 ∧
 (∀ h7, h7 = sI h5 this 2 (p2 + (1 : Int32)) →
 post h7)))))) → J11 v11_2 h11_ c11 s11) →
 ((p2 = (nI n1) →
 (∃ k9 n9 : Nat,
 (0 + k9 ≤ mc ∧
 (0 + n9 ≤ ms ∧
 (hT h this = 1 ∧
 wp_Jx4a65c_grow_d5877 dE k9 n9 h this (fun a9 h9 =>
 J11 a9 h9 (0 + k9) (0 + n9))))))) ∧ (¬ (p2 = (nI n1)) →
 J11 p1 h 0 0)))))
set_option maxHeartbeats 4000000 in
set_option maxRecDepth 100000 in
theorem m_Jx4a65c_add_72be8 {E : Ev} {l : Launch} (hl : l.stackTraces = false) {mc ms : Nat} {h : Hp} {this : Nat} {p0 : Nat} {p1 : Nat} {p2 : Int32} {post : Hp → Prop} (hw : wp_Jx4a65c_add_72be8 (eE E) mc ms h this p0 p1 p2 post) : MT E l yJx4a65c_add_72be8 cJx4a65c_add_72be8 4 none 5 127 mc ms h [.ref this, .ref p0, .ref p1, .int p2] (poV post) (pxN) := by
  refine MT.of (by decide) hl (Nat.le_of_ble_eq_true rfl) (fun p e s m args below meth c C => ?_)
  unfold wp_Jx4a65c_add_72be8 at hw
  have C : CX E p l s m args meth c cJx4a65c_add_72be8 4 "java/util/ArrayList" "add" none [] := C
  show WS E p l e (rmOf 5 mc ms 127) s m args below meth c 4 (vx_MQ below (qcP E (poV post)) (xcP E (pxN)) args s mc ms (bsA E)) h 0 0 0 [(0, .ref this), (1, .ref p0), (2, .ref p1), (3, .int p2)] []
  refine r_iload_n C dJx4a65c_add_72be8_0 rfl rfl ?_
  refine r_aload_n C dJx4a65c_add_72be8_1 rfl rfl ?_
  obtain ⟨g1, hw⟩ := hw
  obtain ⟨n1, e1, hw⟩ := hw
  refine a_lenO C g1 e1 dJx4a65c_add_72be8_2 ?_
  replace hw := hw (fun (v11_2 : Nat) (h11_ : Hp) (c11 : Nat) (s11 : Nat) => c11 ≤ mc → s11 ≤ ms → WS E p l e (rmOf 5 mc ms 127) s m args below meth c 4 (vx_MQ below (qcP E (poV post)) (xcP E (pxN)) args s mc ms (bsA E)) h11_ c11 s11 11 [(0, .ref this), (1, .ref p0), (2, .ref v11_2), (3, .int p2)] []) (by
    intro v11_2 h11_ c11 s11 hv bc11 bs11
    replace hw := hv
    clear hv
    refine r_aload_n C dJx4a65c_add_72be8_11 rfl rfl ?_
    refine r_iload_n C dJx4a65c_add_72be8_12 rfl rfl ?_
    refine r_aload_n C dJx4a65c_add_72be8_13 rfl rfl ?_
    obtain ⟨g2, hw⟩ := hw
    obtain ⟨j3, f3, l3, k3, hw⟩ := hw
    obtain ⟨g4, hw⟩ := hw
    obtain ⟨h5, eh5⟩ : ∃ z, z = sR h11_ v11_2 j3 (some p0) := ⟨_, rfl⟩
    replace hw := hw h5 eh5
    refine s_O C g2 f3 l3 k3 g4 dJx4a65c_add_72be8_14 eh5 ?_
    refine r_aload_n C dJx4a65c_add_72be8_15 rfl rfl ?_
    refine r_iload_n C dJx4a65c_add_72be8_16 rfl rfl ?_
    refine r_iconst (v := (1 : Int32)) C dJx4a65c_add_72be8_17 (by decide) ?_
    refine r_iadd C dJx4a65c_add_72be8_18 ?_
    obtain ⟨g6, hw⟩ := hw
    obtain ⟨h7, eh7⟩ : ∃ z, z = sI h5 this 2 (p2 + (1 : Int32)) := ⟨_, rfl⟩
    replace hw := hw h7 eh7
    refine p_I C K1 ob1 g6 (by decide) 2 (by decide) w_83 (fun _ z => z) rfl (by decide +kernel) (Nat.le_of_ble_eq_true rfl) rfl dJx4a65c_add_72be8_19 eh7 ?_
    exact r_vret C dJx4a65c_add_72be8_22 bc11 bs11 ⟨rfl, hw⟩
    )
  refine r_icmp_ne C 11 dJx4a65c_add_72be8_3 (by decide) (fun z8 => ?_) (fun z8 => ?_)
  · replace hw := hw.2 z8
    exact (r_subk (hw (Nat.zero_le _) (Nat.zero_le _)) ⟨rfl, rfl, rfl, rfl, trivial⟩)
  · replace hw := hw.1 z8
    refine r_aload_n C dJx4a65c_add_72be8_6 rfl rfl ?_
    obtain ⟨k9, n9, hw⟩ := hw
    obtain ⟨b10, d10, hw⟩ := hw
    obtain ⟨g11, hw⟩ := hw
    refine r_callV (As := []) (st := []) C (m_Jx4a65c_grow_d5877 hl hw) v_Jx4a65c_grow_d5877 w_267 K1 g11 (by decide) ob1 rfl ⟨leb rfl, leb rfl⟩ ⟨b10, d10⟩ rfl (leb rfl) dJx4a65c_add_72be8_7 (fun _ _ z => z.elim) (kkA (K := fun hK sK => WS E p l e (rmOf 5 mc ms 127) s m args below meth c 4 (vx_MQ below (qcP E (poV post)) (xcP E (pxN)) args s mc ms (bsA E)) hK (0 + k9) (0 + n9) (7 + 3) [(0, .ref this), (1, .ref p0), (2, .ref p1), (3, .int p2)] sK) (fun a9 h9 hv => ?_))
    replace hw := hv
    clear hv
    refine r_astore_n C dJx4a65c_add_72be8_10 rfl (by decide) [(0, .ref this), (1, .ref p0), (2, .ref a9), (3, .int p2)] ⟨rfl, rfl, rfl, rfl, trivial⟩ ?_
    exact (r_subk (hw b10 d10) ⟨rfl, rfl, rfl, rfl, trivial⟩)
theorem v_Jx4a65c_add_72be8 : MV yJx4a65c_add_72be8 cJx4a65c_add_72be8 4 none 3 := ⟨w_266, w_265, w_7, w_40, ⟨by decide +kernel, by decide +kernel, by decide +kernel⟩⟩

def wp_Jx4a65c_add_9ea2d (dE : Nat) (mc ms : Nat) (h : Hp) (this : Nat) (p0 : Nat) (post : Int32 → Hp → Prop) : Prop :=
(hT h this = 1 ∧
 (∃ x2 : Int32, hI h this 0 = x2 ∧
 (∀ h3, h3 = sI h this 0 (x2 + (1 : Int32)) →
 (∃ a5 : Nat, hR h3 this 1 = some a5 ∧
 (∃ x6 : Int32, hI h3 this 2 = x6 ∧
 (∃ k7 n7 : Nat,
 (0 + k7 ≤ mc ∧
 (0 + n7 ≤ ms ∧
 wp_Jx4a65c_add_72be8 dE k7 n7 h3 this p0 a5 x6 (fun h7 =>
 post (1 : Int32) h7)))))))))
set_option maxHeartbeats 4000000 in
set_option maxRecDepth 100000 in
theorem m_Jx4a65c_add_9ea2d {E : Ev} {l : Launch} (hl : l.stackTraces = false) {mc ms : Nat} {h : Hp} {this : Nat} {p0 : Nat} {post : Int32 → Hp → Prop} (hw : wp_Jx4a65c_add_9ea2d (eE E) mc ms h this p0 post) : MT E l yJx4a65c_add_9ea2d cJx4a65c_add_9ea2d 2 (some .boolean) 6 150 mc ms h [.ref this, .ref p0] (poI post) (pxN) := by
  refine MT.of (by decide) hl (Nat.le_of_ble_eq_true rfl) (fun p e s m args below meth c C => ?_)
  unfold wp_Jx4a65c_add_9ea2d at hw
  have C : CX E p l s m args meth c cJx4a65c_add_9ea2d 2 "java/util/ArrayList" "add" (some .boolean) [] := C
  show WS E p l e (rmOf 6 mc ms 150) s m args below meth c 2 (vx_MQ below (qcP E (poI post)) (xcP E (pxN)) args s mc ms (bsA E)) h 0 0 0 [(0, .ref this), (1, .ref p0)] []
  refine r_aload_n C dJx4a65c_add_9ea2d_0 rfl rfl ?_
  refine r_dup C dJx4a65c_add_9ea2d_1 rfl ?_
  obtain ⟨g1, hw⟩ := hw
  obtain ⟨x2, e2, hw⟩ := hw
  refine r_getI C K1 ob1 g1 (by decide) 0 (by decide) w_85 (fun x z => u_same (C.2.2.2.2.1 _ w_86) x z) e2 rfl dJx4a65c_add_9ea2d_2 ?_
  refine r_iconst (v := (1 : Int32)) C dJx4a65c_add_9ea2d_5 (by decide) ?_
  refine r_iadd C dJx4a65c_add_9ea2d_6 ?_
  obtain ⟨h3, eh3⟩ : ∃ z, z = sI h this 0 (x2 + (1 : Int32)) := ⟨_, rfl⟩
  replace hw := hw h3 eh3
  refine p_I C K1 ob1 g1 (by decide) 0 (by decide) w_85 (fun x z => u_same (C.2.2.2.2.1 _ w_86) x z) rfl (by decide +kernel) (Nat.le_of_ble_eq_true rfl) rfl dJx4a65c_add_9ea2d_7 eh3 ?_
  refine r_aload_n C dJx4a65c_add_9ea2d_10 rfl rfl ?_
  refine r_aload_n C dJx4a65c_add_9ea2d_11 rfl rfl ?_
  refine r_aload_n C dJx4a65c_add_9ea2d_12 rfl rfl ?_
  have g4 : hT h3 this = 1 := by rw [eh3]; exact g1
  obtain ⟨a5, e5, hw⟩ := hw
  refine r_getA C K1 ob1 g4 (by decide) 1 (by decide) w_82 (fun _ z => z) e5 rfl dJx4a65c_add_9ea2d_13 ?_
  refine r_aload_n C dJx4a65c_add_9ea2d_16 rfl rfl ?_
  obtain ⟨x6, e6, hw⟩ := hw
  refine r_getI C K1 ob1 g4 (by decide) 2 (by decide) w_83 (fun _ z => z) e6 rfl dJx4a65c_add_9ea2d_17 ?_
  obtain ⟨k7, n7, hw⟩ := hw
  obtain ⟨b8, d8, hw⟩ := hw
  refine r_callV (As := [.ref p0, .ref a5, .int x6]) (st := []) C (m_Jx4a65c_add_72be8 hl hw) v_Jx4a65c_add_72be8 w_263 K1 g4 (by decide) ob1 rfl ⟨leb rfl, leb rfl⟩ ⟨b8, d8⟩ rfl (leb rfl) dJx4a65c_add_9ea2d_20 (fun _ _ z => z.elim) (kkV (K := fun hK sK => WS E p l e (rmOf 6 mc ms 150) s m args below meth c 2 (vx_MQ below (qcP E (poI post)) (xcP E (pxN)) args s mc ms (bsA E)) hK (0 + k7) (0 + n7) (20 + 3) [(0, .ref this), (1, .ref p0)] sK) (fun h7 hv => ?_))
  replace hw := hv
  clear hv
  refine r_iconst (v := (1 : Int32)) C dJx4a65c_add_9ea2d_23 (by decide) ?_
  exact r_zret C (Or.inr rfl) dJx4a65c_add_9ea2d_24 b8 d8 ⟨_, rfl, hw⟩
theorem v_Jx4a65c_add_9ea2d : MV yJx4a65c_add_9ea2d cJx4a65c_add_9ea2d 2 (some .boolean) 1 := ⟨w_262, w_260, w_261, w_40, ⟨by decide +kernel, by decide +kernel, by decide +kernel⟩⟩

def wp_J3_checkIndex_8e157 (h : Hp) (p0 : Int32) (p1 : Int32) (post : Int32 → Prop) : Prop :=
(∀ J9 : Prop, ((False) → J9) →
 ((p0 < 0 →
 J9) ∧ (¬ (p0 < 0) →
 ((p0 < p1 →
 post p0) ∧ (¬ (p0 < p1) →
 J9)))))
set_option maxHeartbeats 4000000 in
set_option maxRecDepth 100000 in
theorem m_J3_checkIndex_8e157 {E : Ev} {l : Launch} (hl : l.stackTraces = false) {h : Hp} {p0 : Int32} {p1 : Int32} {post : Int32 → Prop} (hw : wp_J3_checkIndex_8e157 h p0 p1 post) : MT E l yJ3_checkIndex_8e157 cJ3_checkIndex_8e157 3 (some .int) 0 0 0 0 h [.int p0, .int p1, va_rf none] (puI h post) (pxN) := by
  refine MT.of (by decide) hl (Nat.le_of_ble_eq_true rfl) (fun p e s m args below meth c C => ?_)
  unfold wp_J3_checkIndex_8e157 at hw
  have C : CX E p l s m args meth c cJ3_checkIndex_8e157 3 "jdk/internal/util/Preconditions" "checkIndex" (some .int) [] := C
  show WS E p l e (rmOf 0 0 0 0) s m args below meth c 3 (vx_MQ below (qcP E (puI h post)) (xcP E (pxN)) args s 0 0 (bsA E)) h 0 0 0 [(0, .int p0), (1, .int p1), (2, va_rf none)] []
  refine r_iload_n C dJ3_checkIndex_8e157_0 rfl rfl ?_
  replace hw := hw (WS E p l e (rmOf 0 0 0 0) s m args below meth c 3 (vx_MQ below (qcP E (puI h post)) (xcP E (pxN)) args s 0 0 (bsA E)) h 0 0 9 [(0, .int p0), (1, .int p1), (2, va_rf none)] []) (by
    intro hv
    replace hw := hv
    clear hv
    refine r_aloadq_n C dJ3_checkIndex_8e157_9 rfl rfl ?_
    refine r_iload_n C dJ3_checkIndex_8e157_10 rfl rfl ?_
    refine r_iload_n C dJ3_checkIndex_8e157_11 rfl rfl ?_
    exact hw.elim
    )
  refine r_if_lt C 9 dJ3_checkIndex_8e157_1 (by decide) (fun z1 => ?_) (fun z1 => ?_)
  · replace hw := hw.1 z1
    exact (r_subk hw ⟨rfl, rfl, rfl, trivial⟩)
  · replace hw := hw.2 z1
    refine r_iload_n C dJ3_checkIndex_8e157_4 rfl rfl ?_
    refine r_iload_n C dJ3_checkIndex_8e157_5 rfl rfl ?_
    refine r_icmp_lt C 16 dJ3_checkIndex_8e157_6 (by decide) (fun z2 => ?_) (fun z2 => ?_)
    · replace hw := hw.1 z2
      refine r_iload_n C dJ3_checkIndex_8e157_16 rfl rfl ?_
      exact r_iret C dJ3_checkIndex_8e157_17 (by decide) (by decide) ⟨_, rfl, hw, rfl⟩
    · replace hw := hw.2 z2
      exact (r_subk hw ⟨rfl, rfl, rfl, trivial⟩)
theorem v_J3_checkIndex_8e157 : MS yJ3_checkIndex_8e157 cJ3_checkIndex_8e157 3 (some .int) 3 := ⟨w_378, w_377, w_54, ⟨by decide +kernel, by decide +kernel, by decide +kernel⟩⟩

def wp_J15_checkIndex_7cf53 (h : Hp) (p0 : Int32) (p1 : Int32) (post : Int32 → Prop) : Prop :=
wp_J3_checkIndex_8e157 h p0 p1 (fun x1 =>
 post x1)
set_option maxHeartbeats 4000000 in
set_option maxRecDepth 100000 in
theorem m_J15_checkIndex_7cf53 {E : Ev} {l : Launch} (hl : l.stackTraces = false) {h : Hp} {p0 : Int32} {p1 : Int32} {post : Int32 → Prop} (hw : wp_J15_checkIndex_7cf53 h p0 p1 post) : MT E l yJ15_checkIndex_7cf53 cJ15_checkIndex_7cf53 2 (some .int) 1 22 0 0 h [.int p0, .int p1] (puI h post) (pxN) := by
  refine MT.of (by decide) hl (Nat.le_of_ble_eq_true rfl) (fun p e s m args below meth c C => ?_)
  unfold wp_J15_checkIndex_7cf53 at hw
  have C : CX E p l s m args meth c cJ15_checkIndex_7cf53 2 "java/util/Objects" "checkIndex" (some .int) [] := C
  show WS E p l e (rmOf 1 0 0 22) s m args below meth c 2 (vx_MQ below (qcP E (puI h post)) (xcP E (pxN)) args s 0 0 (bsA E)) h 0 0 0 [(0, .int p0), (1, .int p1)] []
  refine r_iload_n C dJ15_checkIndex_7cf53_0 rfl rfl ?_
  refine r_iload_n C dJ15_checkIndex_7cf53_1 rfl rfl ?_
  refine r_null C dJ15_checkIndex_7cf53_2 ?_
  refine r_callS (As := [.int p0, .int p1, va_rf none]) (st := []) C (m_J3_checkIndex_8e157 hl hw) v_J3_checkIndex_8e157 w_376 rfl ⟨leb rfl, leb rfl⟩ ⟨leb rfl, leb rfl⟩ rfl (leb rfl) dJ15_checkIndex_7cf53_3 (fun _ _ z => z.elim) (kpI (K := fun hK sK => WS E p l e (rmOf 1 0 0 22) s m args below meth c 2 (vx_MQ below (qcP E (puI h post)) (xcP E (pxN)) args s 0 0 (bsA E)) hK (0 + 0) (0 + 0) (3 + 3) [(0, .int p0), (1, .int p1)] sK) (fun x1 hv => ?_))
  replace hw := hv
  clear hv
  exact r_iret C dJ15_checkIndex_7cf53_6 (by decide) (by decide) ⟨_, rfl, hw, rfl⟩
theorem v_J15_checkIndex_7cf53 : MS yJ15_checkIndex_7cf53 cJ15_checkIndex_7cf53 2 (some .int) 2 := ⟨w_375, w_374, w_53, ⟨by decide +kernel, by decide +kernel, by decide +kernel⟩⟩

def wp_Jx4a65c_elementData_915e3 (h : Hp) (this : Nat) (p0 : Int32) (post : Nat → Prop) : Prop :=
(hT h this = 1 ∧
 (∃ a2 : Nat, hR h this 1 = some a2 ∧
 (hT h a2 = 26 ∧
 (∃ j4 : Nat, p0 = nI j4 ∧ j4 < 2147483648 ∧ j4 < hL h a2 ∧
 (∃ a5 : Nat, hR h a2 j4 = some a5 ∧
 post a5)))))
set_option maxHeartbeats 4000000 in
set_option maxRecDepth 100000 in
theorem m_Jx4a65c_elementData_915e3 {E : Ev} {l : Launch} (hl : l.stackTraces = false) {h : Hp} {this : Nat} {p0 : Int32} {post : Nat → Prop} (hw : wp_Jx4a65c_elementData_915e3 h this p0 post) : MT E l yJx4a65c_elementData_915e3 cJx4a65c_elementData_915e3 2 (some (.object "java/lang/Object")) 0 0 0 0 h [.ref this, .int p0] (puA h post) (pxN) := by
  refine MT.of (by decide) hl (Nat.le_of_ble_eq_true rfl) (fun p e s m args below meth c C => ?_)
  unfold wp_Jx4a65c_elementData_915e3 at hw
  have C : CX E p l s m args meth c cJx4a65c_elementData_915e3 2 "java/util/ArrayList" "elementData" (some (.object "java/lang/Object")) [] := C
  show WS E p l e (rmOf 0 0 0 0) s m args below meth c 2 (vx_MQ below (qcP E (puA h post)) (xcP E (pxN)) args s 0 0 (bsA E)) h 0 0 0 [(0, .ref this), (1, .int p0)] []
  refine r_aload_n C dJx4a65c_elementData_915e3_0 rfl rfl ?_
  obtain ⟨g1, hw⟩ := hw
  obtain ⟨a2, e2, hw⟩ := hw
  refine r_getA C K1 ob1 g1 (by decide) 1 (by decide) w_82 (fun _ z => z) e2 rfl dJx4a65c_elementData_915e3_1 ?_
  refine r_iload_n C dJx4a65c_elementData_915e3_4 rfl rfl ?_
  obtain ⟨g3, hw⟩ := hw
  obtain ⟨j4, f4, l4, k4, hw⟩ := hw
  obtain ⟨a5, e5, hw⟩ := hw
  refine a_A C ar26 g3 (by decide) (t0 := 6) rfl f4 l4 k4 e5 dJx4a65c_elementData_915e3_5 ?_
  exact r_aret (r := some a5) C (Or.inl ⟨_, rfl⟩) dJx4a65c_elementData_915e3_6 (by decide) (by decide) ⟨_, rfl, hw, rfl⟩
theorem v_Jx4a65c_elementData_915e3 : MV yJx4a65c_elementData_915e3 cJx4a65c_elementData_915e3 2 (some (.object "java/lang/Object")) 1 := ⟨w_382, w_380, w_381, w_40, ⟨by decide +kernel, by decide +kernel, by decide +kernel⟩⟩

def wp_Jx4a65c_get_915e3 (h : Hp) (this : Nat) (p0 : Int32) (post : Nat → Prop) : Prop :=
(hT h this = 1 ∧
 (∃ x2 : Int32, hI h this 2 = x2 ∧
 wp_J15_checkIndex_7cf53 h p0 x2 (fun x3 =>
 wp_Jx4a65c_elementData_915e3 h this p0 (fun a4 =>
 post a4))))
set_option maxHeartbeats 4000000 in
set_option maxRecDepth 100000 in
theorem m_Jx4a65c_get_915e3 {E : Ev} {l : Launch} (hl : l.stackTraces = false) {h : Hp} {this : Nat} {p0 : Int32} {post : Nat → Prop} (hw : wp_Jx4a65c_get_915e3 h this p0 post) : MT E l yJx4a65c_get_915e3 cJx4a65c_get_915e3 2 (some (.object "java/lang/Object")) 2 43 0 0 h [.ref this, .int p0] (puA h post) (pxN) := by
  refine MT.of (by decide) hl (Nat.le_of_ble_eq_true rfl) (fun p e s m args below meth c C => ?_)
  unfold wp_Jx4a65c_get_915e3 at hw
  have C : CX E p l s m args meth c cJx4a65c_get_915e3 2 "java/util/ArrayList" "get" (some (.object "java/lang/Object")) [] := C
  show WS E p l e (rmOf 2 0 0 43) s m args below meth c 2 (vx_MQ below (qcP E (puA h post)) (xcP E (pxN)) args s 0 0 (bsA E)) h 0 0 0 [(0, .ref this), (1, .int p0)] []
  refine r_iload_n C dJx4a65c_get_915e3_0 rfl rfl ?_
  refine r_aload_n C dJx4a65c_get_915e3_1 rfl rfl ?_
  obtain ⟨g1, hw⟩ := hw
  obtain ⟨x2, e2, hw⟩ := hw
  refine r_getI C K1 ob1 g1 (by decide) 2 (by decide) w_83 (fun _ z => z) e2 rfl dJx4a65c_get_915e3_2 ?_
  refine r_callS (As := [.int p0, .int x2]) (st := []) C (m_J15_checkIndex_7cf53 hl hw) v_J15_checkIndex_7cf53 w_373 rfl ⟨leb rfl, leb rfl⟩ ⟨leb rfl, leb rfl⟩ rfl (leb rfl) dJx4a65c_get_915e3_5 (fun _ _ z => z.elim) (kpI (K := fun hK sK => WS E p l e (rmOf 2 0 0 43) s m args below meth c 2 (vx_MQ below (qcP E (puA h post)) (xcP E (pxN)) args s 0 0 (bsA E)) hK (0 + 0) (0 + 0) (5 + 3) [(0, .ref this), (1, .int p0)] sK) (fun x3 hv => ?_))
  replace hw := hv
  clear hv
  refine r_pop C dJx4a65c_get_915e3_8 rfl ?_
  refine r_aload_n C dJx4a65c_get_915e3_9 rfl rfl ?_
  refine r_iload_n C dJx4a65c_get_915e3_10 rfl rfl ?_
  refine r_callV (As := [.int p0]) (st := []) C (m_Jx4a65c_elementData_915e3 hl hw) v_Jx4a65c_elementData_915e3 w_379 K1 g1 (by decide) ob1 rfl ⟨leb rfl, leb rfl⟩ ⟨leb rfl, leb rfl⟩ rfl (leb rfl) dJx4a65c_get_915e3_11 (fun _ _ z => z.elim) (kpA (K := fun hK sK => WS E p l e (rmOf 2 0 0 43) s m args below meth c 2 (vx_MQ below (qcP E (puA h post)) (xcP E (pxN)) args s 0 0 (bsA E)) hK (0 + 0) (0 + 0) (11 + 3) [(0, .ref this), (1, .int p0)] sK) (fun a4 hv => ?_))
  replace hw := hv
  clear hv
  exact r_aret (r := some a4) C (Or.inl ⟨_, rfl⟩) dJx4a65c_get_915e3_14 (by decide) (by decide) ⟨_, rfl, hw, rfl⟩
theorem v_Jx4a65c_get_915e3 : MV yJx4a65c_get_915e3 cJx4a65c_get_915e3 2 (some (.object "java/lang/Object")) 1 := ⟨w_372, w_370, w_371, w_40, ⟨by decide +kernel, by decide +kernel, by decide +kernel⟩⟩

def wp_Jx4a65c_fastRemove_b59b0 (h : Hp) (this : Nat) (p0 : Nat) (p1 : Int32) (post : Hp → Prop) : Prop :=
(hT h this = 1 ∧
 (∃ x2 : Int32, hI h this 0 = x2 ∧
 (∀ h3, h3 = sI h this 0 (x2 + (1 : Int32)) →
 (∃ x5 : Int32, hI h3 this 2 = x5 ∧
 (∀ J34 : Hp → Prop, (∀ (h34_ : Hp), (hT h34_ this = 1 ∧
 (∀ h7, h7 = sI h34_ this 2 (x5 - (1 : Int32)) →
 (hT h7 p0 = 26 ∧
 (∃ j9 : Nat, x5 - (1 : Int32) = nI j9 ∧ j9 < 2147483648 ∧ j9 < hL h7 p0 ∧
 (∀ h10, h10 = sR h7 p0 j9 none →
 post h10))))) → J34 h34_) →
 (((x5 - (1 : Int32)) ≤ p1 →
 J34 h3) ∧ (¬ ((x5 - (1 : Int32)) ≤ p1) →
 (hT h3 p0 = 26 ∧
 (∃ js13 : Nat, p1 + (1 : Int32) = nI js13 ∧ js13 < 2147483648 ∧
 (∃ jd13 : Nat, p1 = nI jd13 ∧ jd13 < 2147483648 ∧
 (∃ jn13 : Nat, (x5 - (1 : Int32)) - p1 = nI jn13 ∧ jn13 < 2147483648 ∧
 (js13 + jn13 ≤ hL h3 p0 ∧
 (jd13 + jn13 ≤ hL h3 p0 ∧
 ((∀ i : Nat, i < jn13 → ∀ y : Nat, hR h3 p0 (js13 + i) = some y → hT h3 y = 2 ∨ hT h3 y = 3 ∨ hT h3 y = 5 ∨ hT h3 y = 6) ∧
 (∀ h14, h14 = sA h3 p0 (va_cpy (hR h3 p0) (hR h3 p0) js13 jd13 jn13) →
 J34 h14)))))))))))))))
set_option maxHeartbeats 4000000 in
set_option maxRecDepth 100000 in
theorem m_Jx4a65c_fastRemove_b59b0 {E : Ev} {l : Launch} (hl : l.stackTraces = false) {h : Hp} {this : Nat} {p0 : Nat} {p1 : Int32} {post : Hp → Prop} (hw : wp_Jx4a65c_fastRemove_b59b0 h this p0 p1 post) : MT E l yJx4a65c_fastRemove_b59b0 cJx4a65c_fastRemove_b59b0 4 none 1 40 0 0 h [.ref this, .ref p0, .int p1] (poV post) (pxN) := by
  refine MT.of (by decide) hl (Nat.le_of_ble_eq_true rfl) (fun p e s m args below meth c C => ?_)
  unfold wp_Jx4a65c_fastRemove_b59b0 at hw
  have C : CX E p l s m args meth c cJx4a65c_fastRemove_b59b0 4 "java/util/ArrayList" "fastRemove" none [] := C
  show WS E p l e (rmOf 1 0 0 40) s m args below meth c 4 (vx_MQ below (qcP E (poV post)) (xcP E (pxN)) args s 0 0 (bsA E)) h 0 0 0 [(0, .ref this), (1, .ref p0), (2, .int p1)] []
  refine r_aload_n C dJx4a65c_fastRemove_b59b0_0 rfl rfl ?_
  refine r_dup C dJx4a65c_fastRemove_b59b0_1 rfl ?_
  obtain ⟨g1, hw⟩ := hw
  obtain ⟨x2, e2, hw⟩ := hw
  refine r_getI C K1 ob1 g1 (by decide) 0 (by decide) w_85 (fun x z => u_same (C.2.2.2.2.1 _ w_86) x z) e2 rfl dJx4a65c_fastRemove_b59b0_2 ?_
  refine r_iconst (v := (1 : Int32)) C dJx4a65c_fastRemove_b59b0_5 (by decide) ?_
  refine r_iadd C dJx4a65c_fastRemove_b59b0_6 ?_
  obtain ⟨h3, eh3⟩ : ∃ z, z = sI h this 0 (x2 + (1 : Int32)) := ⟨_, rfl⟩
  replace hw := hw h3 eh3
  refine p_I C K1 ob1 g1 (by decide) 0 (by decide) w_85 (fun x z => u_same (C.2.2.2.2.1 _ w_86) x z) rfl (by decide +kernel) (Nat.le_of_ble_eq_true rfl) rfl dJx4a65c_fastRemove_b59b0_7 eh3 ?_
  refine r_aload_n C dJx4a65c_fastRemove_b59b0_10 rfl rfl ?_
  have g4 : hT h3 this = 1 := by rw [eh3]; exact g1
  obtain ⟨x5, e5, hw⟩ := hw
  refine r_getI C K1 ob1 g4 (by decide) 2 (by decide) w_83 (fun _ z => z) e5 rfl dJx4a65c_fastRemove_b59b0_11 ?_
  refine r_iconst (v := (1 : Int32)) C dJx4a65c_fastRemove_b59b0_14 (by decide) ?_
  refine r_isub C dJx4a65c_fastRemove_b59b0_15 ?_
  refine r_dup C dJx4a65c_fastRemove_b59b0_16 rfl ?_
  refine r_istore_n C dJx4a65c_fastRemove_b59b0_17 rfl (by decide) [(0, .ref this), (1, .ref p0), (2, .int p1), (3, .int (x5 - (1 : Int32)))] ⟨rfl, rfl, rfl, rfl, trivial⟩ ?_
  refine r_iload_n C dJx4a65c_fastRemove_b59b0_18 rfl rfl ?_
  replace hw := hw (fun (h34_ : Hp) => WS E p l e (rmOf 1 0 0 40) s m args below meth c 4 (vx_MQ below (qcP E (poV post)) (xcP E (pxN)) args s 0 0 (bsA E)) h34_ 0 0 34 [(0, .ref this), (1, .ref p0), (3, .int (x5 - (1 : Int32)))] []) (by
    intro h34_ hv
    replace hw := hv
    clear hv
    refine r_aload_n C dJx4a65c_fastRemove_b59b0_34 rfl rfl ?_
    refine r_aload_n C dJx4a65c_fastRemove_b59b0_35 rfl rfl ?_
    refine r_iload_n C dJx4a65c_fastRemove_b59b0_36 rfl rfl ?_
    refine r_dup_x1 C dJx4a65c_fastRemove_b59b0_37 rfl rfl ?_
    obtain ⟨g6, hw⟩ := hw
    obtain ⟨h7, eh7⟩ : ∃ z, z = sI h34_ this 2 (x5 - (1 : Int32)) := ⟨_, rfl⟩
    replace hw := hw h7 eh7
    refine p_I C K1 ob1 g6 (by decide) 2 (by decide) w_83 (fun _ z => z) rfl (by decide +kernel) (Nat.le_of_ble_eq_true rfl) rfl dJx4a65c_fastRemove_b59b0_38 eh7 ?_
    refine r_null C dJx4a65c_fastRemove_b59b0_41 ?_
    obtain ⟨g8, hw⟩ := hw
    obtain ⟨j9, f9, l9, k9, hw⟩ := hw
    obtain ⟨h10, eh10⟩ : ∃ z, z = sR h7 p0 j9 none := ⟨_, rfl⟩
    replace hw := hw h10 eh10
    refine s_N C (fun f => ar26) g8 (by decide) (t0 := 6) rfl f9 l9 k9 dJx4a65c_fastRemove_b59b0_42 eh10 ?_
    exact r_vret C dJx4a65c_fastRemove_b59b0_43 (by decide) (by decide) ⟨rfl, hw⟩
    )
  refine r_icmp_le C 34 dJx4a65c_fastRemove_b59b0_19 (by decide) (fun z11 => ?_) (fun z11 => ?_)
  · replace hw := hw.1 z11
    exact (r_subk hw ⟨rfl, rfl, rfl, trivial⟩)
  · replace hw := hw.2 z11
    refine r_aload_n C dJx4a65c_fastRemove_b59b0_22 rfl rfl ?_
    refine r_iload_n C dJx4a65c_fastRemove_b59b0_23 rfl rfl ?_
    refine r_iconst (v := (1 : Int32)) C dJx4a65c_fastRemove_b59b0_24 (by decide) ?_
    refine r_iadd C dJx4a65c_fastRemove_b59b0_25 ?_
    refine r_aload_n C dJx4a65c_fastRemove_b59b0_26 rfl rfl ?_
    refine r_iload_n C dJx4a65c_fastRemove_b59b0_27 rfl rfl ?_
    refine r_iload_n C dJx4a65c_fastRemove_b59b0_28 rfl rfl ?_
    refine r_iload_n C dJx4a65c_fastRemove_b59b0_29 rfl rfl ?_
    refine r_isub C dJx4a65c_fastRemove_b59b0_30 ?_
    obtain ⟨g12, hw⟩ := hw
    obtain ⟨js13, fjs13, ljs13, hw⟩ := hw
    obtain ⟨jd13, fjd13, ljd13, hw⟩ := hw
    obtain ⟨jn13, fjn13, ljn13, hw⟩ := hw
    obtain ⟨b113, b213, b313, hw⟩ := hw
    have cjs13 : (nI js13).toNatClampNeg = js13 := nI_clamp (by omega)
    have cjd13 : (nI jd13).toNatClampNeg = jd13 := nI_clamp (by omega)
    have cjn13 : (nI jn13).toNatClampNeg = jn13 := nI_clamp (by omega)
    refine r_st (st' := [.int (nI jn13), .int (nI jd13), .ref p0, .int (nI js13), .ref p0]) (by rw [← fjs13, ← fjd13, ← fjn13]) ?_
    obtain ⟨h14, eh14⟩ : ∃ z, z = sA h3 p0 (va_cpy (hR h3 p0) (hR h3 p0) js13 jd13 jn13) := ⟨_, rfl⟩
    replace hw := hw h14 eh14
    refine r_copy C w_391 w_311 w_310 w_52 g12 g12 (nI_pos (by omega)) (nI_pos (by omega)) (nI_pos (by omega)) (by rw [cjs13, cjn13]; exact b113) (by rw [cjd13, cjn13]; exact b213) (by rw [cjn13, cjs13]; exact b313) (leb rfl) (leb rfl) dJx4a65c_fastRemove_b59b0_31 ?_
    rw [cjs13, cjd13, cjn13, ← eh14]
    exact (r_subk hw ⟨rfl, rfl, rfl, trivial⟩)
theorem v_Jx4a65c_fastRemove_b59b0 : MV yJx4a65c_fastRemove_b59b0 cJx4a65c_fastRemove_b59b0 4 none 2 := ⟨w_390, w_389, w_21, w_40, ⟨by decide +kernel, by decide +kernel, by decide +kernel⟩⟩

def wp_Jx4a65c_remove_915e3 (h : Hp) (this : Nat) (p0 : Int32) (post : Nat → Hp → Prop) : Prop :=
(hT h this = 1 ∧
 (∃ x2 : Int32, hI h this 2 = x2 ∧
 wp_J15_checkIndex_7cf53 h p0 x2 (fun x3 =>
 (∃ a4 : Nat, hR h this 1 = some a4 ∧
 (hT h a4 = 26 ∧
 (∃ j6 : Nat, p0 = nI j6 ∧ j6 < 2147483648 ∧ j6 < hL h a4 ∧
 (∃ a7 : Nat, hR h a4 j6 = some a7 ∧
 wp_Jx4a65c_fastRemove_b59b0 h this a4 p0 (fun h8 =>
 post a7 h8))))))))
set_option maxHeartbeats 4000000 in
set_option maxRecDepth 100000 in
theorem m_Jx4a65c_remove_915e3 {E : Ev} {l : Launch} (hl : l.stackTraces = false) {h : Hp} {this : Nat} {p0 : Int32} {post : Nat → Hp → Prop} (hw : wp_Jx4a65c_remove_915e3 h this p0 post) : MT E l yJx4a65c_remove_915e3 cJx4a65c_remove_915e3 4 (some (.object "java/lang/Object")) 2 63 0 0 h [.ref this, .int p0] (poA post) (pxN) := by
  refine MT.of (by decide) hl (Nat.le_of_ble_eq_true rfl) (fun p e s m args below meth c C => ?_)
  unfold wp_Jx4a65c_remove_915e3 at hw
  have C : CX E p l s m args meth c cJx4a65c_remove_915e3 4 "java/util/ArrayList" "remove" (some (.object "java/lang/Object")) [] := C
  show WS E p l e (rmOf 2 0 0 63) s m args below meth c 4 (vx_MQ below (qcP E (poA post)) (xcP E (pxN)) args s 0 0 (bsA E)) h 0 0 0 [(0, .ref this), (1, .int p0)] []
  refine r_iload_n C dJx4a65c_remove_915e3_0 rfl rfl ?_
  refine r_aload_n C dJx4a65c_remove_915e3_1 rfl rfl ?_
  obtain ⟨g1, hw⟩ := hw
  obtain ⟨x2, e2, hw⟩ := hw
  refine r_getI C K1 ob1 g1 (by decide) 2 (by decide) w_83 (fun _ z => z) e2 rfl dJx4a65c_remove_915e3_2 ?_
  refine r_callS (As := [.int p0, .int x2]) (st := []) C (m_J15_checkIndex_7cf53 hl hw) v_J15_checkIndex_7cf53 w_373 rfl ⟨leb rfl, leb rfl⟩ ⟨leb rfl, leb rfl⟩ rfl (leb rfl) dJx4a65c_remove_915e3_5 (fun _ _ z => z.elim) (kpI (K := fun hK sK => WS E p l e (rmOf 2 0 0 63) s m args below meth c 4 (vx_MQ below (qcP E (poA post)) (xcP E (pxN)) args s 0 0 (bsA E)) hK (0 + 0) (0 + 0) (5 + 3) [(0, .ref this), (1, .int p0)] sK) (fun x3 hv => ?_))
  replace hw := hv
  clear hv
  refine r_pop C dJx4a65c_remove_915e3_8 rfl ?_
  refine r_aload_n C dJx4a65c_remove_915e3_9 rfl rfl ?_
  obtain ⟨a4, e4, hw⟩ := hw
  refine r_getA C K1 ob1 g1 (by decide) 1 (by decide) w_82 (fun _ z => z) e4 rfl dJx4a65c_remove_915e3_10 ?_
  refine r_astore_n C dJx4a65c_remove_915e3_13 rfl (by decide) [(0, .ref this), (1, .int p0), (2, .ref a4)] ⟨rfl, rfl, rfl, trivial⟩ ?_
  refine r_aload_n C dJx4a65c_remove_915e3_14 rfl rfl ?_
  refine r_iload_n C dJx4a65c_remove_915e3_15 rfl rfl ?_
  obtain ⟨g5, hw⟩ := hw
  obtain ⟨j6, f6, l6, k6, hw⟩ := hw
  obtain ⟨a7, e7, hw⟩ := hw
  refine a_A C ar26 g5 (by decide) (t0 := 6) rfl f6 l6 k6 e7 dJx4a65c_remove_915e3_16 ?_
  refine r_astore_n C dJx4a65c_remove_915e3_17 rfl (by decide) [(0, .ref this), (1, .int p0), (2, .ref a4), (3, .ref a7)] ⟨rfl, rfl, rfl, rfl, trivial⟩ ?_
  refine r_aload_n C dJx4a65c_remove_915e3_18 rfl rfl ?_
  refine r_aload_n C dJx4a65c_remove_915e3_19 rfl rfl ?_
  refine r_iload_n C dJx4a65c_remove_915e3_20 rfl rfl ?_
  refine r_callV (As := [.ref a4, .int p0]) (st := []) C (m_Jx4a65c_fastRemove_b59b0 hl hw) v_Jx4a65c_fastRemove_b59b0 w_387 K1 g1 (by decide) ob1 rfl ⟨leb rfl, leb rfl⟩ ⟨leb rfl, leb rfl⟩ rfl (leb rfl) dJx4a65c_remove_915e3_21 (fun _ _ z => z.elim) (kkV (K := fun hK sK => WS E p l e (rmOf 2 0 0 63) s m args below meth c 4 (vx_MQ below (qcP E (poA post)) (xcP E (pxN)) args s 0 0 (bsA E)) hK (0 + 0) (0 + 0) (21 + 3) [(0, .ref this), (1, .int p0), (2, .ref a4), (3, .ref a7)] sK) (fun h8 hv => ?_))
  replace hw := hv
  clear hv
  refine r_aload_n C dJx4a65c_remove_915e3_24 rfl rfl ?_
  exact r_aret (r := some a7) C (Or.inl ⟨_, rfl⟩) dJx4a65c_remove_915e3_25 (by decide) (by decide) ⟨_, rfl, hw⟩
theorem v_Jx4a65c_remove_915e3 : MV yJx4a65c_remove_915e3 cJx4a65c_remove_915e3 4 (some (.object "java/lang/Object")) 1 := ⟨w_386, w_384, w_385, w_40, ⟨by decide +kernel, by decide +kernel, by decide +kernel⟩⟩

