def wp_X5_comeFromOrders (h : Hp) (this : Nat) (post : Hp → Prop) : Prop :=
(hT h this = 7 ∧
 (∃ a2 : Nat, hR h this 6 = some a2 ∧
 (hT h a2 = 25 ∧
 (0 < hL h a2 ∧
 (∃ r5 : Option Nat, hR h a2 0 = r5 ∧
 ((r5 = none →
 (∀ J12 : Int32 → Prop, (∀ (v12_1 : Int32), (∃ a7 : Nat, hR h this 2 = some a7 ∧
 (hT h a7 = 1 ∧
 wp_Jx4a65c_size_8abf5 h a7 (fun x8 =>
 ((x8 ≤ v12_1 →
 post h) ∧ (¬ (x8 ≤ v12_1) →
 (∃ a11 : Nat, hR h this 2 = some a11 ∧
 (hT h a11 = 1 ∧
 wp_Jx4a65c_get_915e3 h a11 v12_1 (fun a12 =>
 (hT h a12 = 2 ∧
 (∃ x15 : Int32, hI h a12 3 = x15 ∧
 ((x15 = 0 →
 wp_X5_enterLine h this a12 (0 : Int32) (fun h17 =>
 post h17)) ∧ (¬ (x15 = 0) →
 J12 (v12_1 + (1 : Int32)))))))))))))) → J12 v12_1) →
 J12 (0 : Int32))) ∧ (∀ x6, r5 = some x6 →
 post h)))))))
set_option maxHeartbeats 4000000 in
set_option maxRecDepth 100000 in
theorem m_X5_comeFromOrders {E : Ev} {l : Launch} (hl : l.stackTraces = false) {h : Hp} {this : Nat} {post : Hp → Prop} (hw : wp_X5_comeFromOrders h this post) : MT E l yX5_comeFromOrders cX5_comeFromOrders 3 none 3 64 0 0 h [.ref this] (poV post) (pxN) := by
  refine MT.of (by decide) hl (Nat.le_of_ble_eq_true rfl) (fun p e s m args below meth c C => ?_)
  unfold wp_X5_comeFromOrders at hw
  have C : CX E p l s m args meth c cX5_comeFromOrders 3 "TaktLine" "comeFromOrders" none [] := C
  show WS E p l e (rmOf 3 0 0 64) s m args below meth c 3 (vx_MQ below (qcP E (poV post)) (xcP E (pxN)) args s 0 0 (bsA E)) h 0 0 0 [(0, .ref this)] []
  refine r_aload_n C dX5_comeFromOrders_0 rfl rfl ?_
  obtain ⟨g1, hw⟩ := hw
  obtain ⟨a2, e2, hw⟩ := hw
  refine r_getA C K7 ob7 g1 (by decide) 6 (by decide) w_124 (fun _ z => z) e2 rfl dX5_comeFromOrders_1 ?_
  refine r_iconst (v := (0 : Int32)) C dX5_comeFromOrders_4 (by decide) ?_
  obtain ⟨g3, hw⟩ := hw
  obtain ⟨l4, hw⟩ := hw
  obtain ⟨r5, e5, hw⟩ := hw
  refine a_R C ar25 g3 (by decide) (t0 := 5) rfl (j := 0) rfl (by decide) l4 e5 dX5_comeFromOrders_5 ?_
  refine r_ifnull C 10 dX5_comeFromOrders_6 (by decide) (fun z6 => ?_) (fun x6 z6 => ?_)
  · replace hw := hw.1 z6
    subst z6
    refine r_iconst (v := (0 : Int32)) C dX5_comeFromOrders_10 (by decide) ?_
    refine r_istore_n C dX5_comeFromOrders_11 rfl (by decide) [(0, .ref this), (1, .int (0 : Int32))] ⟨rfl, rfl, trivial⟩ ?_
    replace hw := hw (fun (v12_1 : Int32) => WS E p l e (rmOf 3 0 0 64) s m args below meth c 3 (vx_MQ below (qcP E (poV post)) (xcP E (pxN)) args s 0 0 (bsA E)) h 0 0 12 [(0, .ref this), (1, .int v12_1)] []) (by
      intro v12_1 hv
      replace hw := hv
      clear hv
      refine r_iload_n C dX5_comeFromOrders_12 rfl rfl ?_
      refine r_aload_n C dX5_comeFromOrders_13 rfl rfl ?_
      obtain ⟨a7, e7, hw⟩ := hw
      refine r_getA C K7 ob7 g1 (by decide) 2 (by decide) w_120 (fun _ z => z) e7 rfl dX5_comeFromOrders_14 ?_
      obtain ⟨g9, hw⟩ := hw
      refine r_callV (As := []) (st := [.int v12_1]) C (m_Jx4a65c_size_8abf5 hl hw) v_Jx4a65c_size_8abf5 w_365 K1 g9 (by decide) ob1 rfl ⟨leb rfl, leb rfl⟩ ⟨leb rfl, leb rfl⟩ rfl (leb rfl) dX5_comeFromOrders_17 (fun _ _ z => z.elim) (kpI (K := fun hK sK => WS E p l e (rmOf 3 0 0 64) s m args below meth c 3 (vx_MQ below (qcP E (poV post)) (xcP E (pxN)) args s 0 0 (bsA E)) hK (0 + 0) (0 + 0) (17 + 3) [(0, .ref this), (1, .int v12_1)] sK) (fun x8 hv => ?_))
      replace hw := hv
      clear hv
      refine r_icmp_ge C 55 dX5_comeFromOrders_20 (by decide) (fun z10 => ?_) (fun z10 => ?_)
      · replace hw := hw.1 z10
        exact r_vret C dX5_comeFromOrders_55 (by decide) (by decide) ⟨rfl, hw⟩
      · replace hw := hw.2 z10
        refine r_aload_n C dX5_comeFromOrders_23 rfl rfl ?_
        obtain ⟨a11, e11, hw⟩ := hw
        refine r_getA C K7 ob7 g1 (by decide) 2 (by decide) w_120 (fun _ z => z) e11 rfl dX5_comeFromOrders_24 ?_
        refine r_iload_n C dX5_comeFromOrders_27 rfl rfl ?_
        obtain ⟨g13, hw⟩ := hw
        refine r_callV (As := [.int v12_1]) (st := []) C (m_Jx4a65c_get_915e3 hl hw) v_Jx4a65c_get_915e3 w_369 K1 g13 (by decide) ob1 rfl ⟨leb rfl, leb rfl⟩ ⟨leb rfl, leb rfl⟩ rfl (leb rfl) dX5_comeFromOrders_28 (fun _ _ z => z.elim) (kpA (K := fun hK sK => WS E p l e (rmOf 3 0 0 64) s m args below meth c 3 (vx_MQ below (qcP E (poV post)) (xcP E (pxN)) args s 0 0 (bsA E)) hK (0 + 0) (0 + 0) (28 + 3) [(0, .ref this), (1, .int v12_1)] sK) (fun a12 hv => ?_))
        replace hw := hv
        clear hv
        obtain ⟨g14, hw⟩ := hw
        refine r_cast (r := some a12) (t := 2) C K2 w_94 (fun x z => by cases z; exact g14) (by decide) (fun x => ob2) dX5_comeFromOrders_31 ?_
        refine r_astore_n C dX5_comeFromOrders_34 rfl (by decide) [(0, .ref this), (1, .int v12_1), (2, .ref a12)] ⟨rfl, rfl, rfl, trivial⟩ ?_
        refine r_aload_n C dX5_comeFromOrders_35 rfl rfl ?_
        obtain ⟨x15, e15, hw⟩ := hw
        refine r_getI C K2 ob2 g14 (by decide) 3 (by decide) w_641 (fun _ z => z) e15 rfl dX5_comeFromOrders_36 ?_
        refine r_if_ne C 49 dX5_comeFromOrders_39 (by decide) (fun z16 => ?_) (fun z16 => ?_)
        · replace hw := hw.2 z16
          refine r_iinc C (v12_1 + (1 : Int32)) dX5_comeFromOrders_49 rfl rfl (by decide) [(0, .ref this), (1, .int (v12_1 + (1 : Int32)))] ⟨rfl, rfl, trivial⟩ ?_
          refine r_goto C 12 dX5_comeFromOrders_52 (by decide) ?_
          exact (r_subk hw ⟨rfl, rfl, trivial⟩)
        · replace hw := hw.1 z16
          refine r_aload_n C dX5_comeFromOrders_42 rfl rfl ?_
          refine r_aload_n C dX5_comeFromOrders_43 rfl rfl ?_
          refine r_iconst (v := (0 : Int32)) C dX5_comeFromOrders_44 (by decide) ?_
          refine r_callV (As := [.ref a12, .int (0 : Int32)]) (st := []) C (m_X5_enterLine hl hw) v_X5_enterLine w_357 K7 g1 (by decide) ob7 rfl ⟨leb rfl, leb rfl⟩ ⟨leb rfl, leb rfl⟩ rfl (leb rfl) dX5_comeFromOrders_45 (fun _ _ z => z.elim) (kkV (K := fun hK sK => WS E p l e (rmOf 3 0 0 64) s m args below meth c 3 (vx_MQ below (qcP E (poV post)) (xcP E (pxN)) args s 0 0 (bsA E)) hK (0 + 0) (0 + 0) (45 + 3) [(0, .ref this), (1, .int v12_1), (2, .ref a12)] sK) (fun h17 hv => ?_))
          replace hw := hv
          clear hv
          exact r_vret C dX5_comeFromOrders_48 (by decide) (by decide) ⟨rfl, hw⟩
      )
    exact (r_subk hw ⟨rfl, rfl, trivial⟩)
  · replace hw := hw.2 x6 z6
    subst z6
    exact r_vret C dX5_comeFromOrders_9 (by decide) (by decide) ⟨rfl, hw⟩
theorem v_X5_comeFromOrders : MV yX5_comeFromOrders cX5_comeFromOrders 3 none 0 := ⟨w_395, w_394, w_22, w_37, ⟨by decide +kernel, by decide +kernel, by decide +kernel⟩⟩

def wp_X5_takeOut (dE : Nat) (mc ms : Nat) (h : Hp) (this : Nat) (p0 : Nat) (p1 : Int32) (post : Hp → Prop) : Prop :=
(hT h p0 = 2 ∧
 (∃ a2 : Nat, hR h p0 2 = some a2 ∧
 (hT h a2 = 24 ∧
 (∃ j4 : Nat, p1 = nI j4 ∧ j4 < 2147483648 ∧ j4 < hL h a2 ∧
 (∃ r5 : Option Nat, hR h a2 j4 = r5 ∧
 (∀ J52 : Hp → Nat → Nat → Prop, (∀ (h52_ : Hp) (c52 : Nat) (s52 : Nat), (post h52_) → J52 h52_ c52 s52) →
 ((r5 = none →
 J52 h 0 0) ∧ (∀ x6, r5 = some x6 →
 (∃ a7 : Nat, hR h p0 2 = some a7 ∧
 (hT h a7 = 24 ∧
 (∃ j9 : Nat, p1 = nI j9 ∧ j9 < 2147483648 ∧ j9 < hL h a7 ∧
 (∀ h10, h10 = sR h a7 j9 none →
 (∀ h12, h12 = sI h10 p0 6 (0 : Int32) →
 (hT h12 this = 7 ∧
 (∃ x14 : Int32, hI h12 this 8 = x14 ∧
 (∀ h15, h15 = sI h12 this 8 (x14 + (1 : Int32)) →
 (∃ a17 : Nat, hR h15 this 5 = some a17 ∧
 (1 ≤ mc ∧
 (3 ≤ ms ∧
 (∀ q19 : Nat, hT h15 q19 = 0 →
 (∀ h20, h20 = sN h15 q19 6 0 →
 (∃ x25 : Int32, hI h20 p0 0 = x25 ∧
 wp_X4_init h20 q19 x25 p1 (-1 : Int32) (fun h26 =>
 (∃ k27 n27 : Nat,
 (1 + k27 ≤ mc ∧
 (3 + n27 ≤ ms ∧
 (hT h26 a17 = 1 ∧
 wp_Jx4a65c_add_9ea2d dE k27 n27 h26 a17 q19 (fun x27 h27 =>
 J52 h27 (1 + k27) (3 + n27)))))))))))))))))))))))))))))
set_option maxHeartbeats 4000000 in
set_option maxRecDepth 100000 in
theorem m_X5_takeOut {E : Ev} {l : Launch} (hl : l.stackTraces = false) {mc ms : Nat} {h : Hp} {this : Nat} {p0 : Nat} {p1 : Int32} {post : Hp → Prop} (hw : wp_X5_takeOut (eE E) mc ms h this p0 p1 post) : MT E l yX5_takeOut cX5_takeOut 3 none 7 171 mc ms h [.ref this, .ref p0, .int p1] (poV post) (pxN) := by
  refine MT.of (by decide) hl (Nat.le_of_ble_eq_true rfl) (fun p e s m args below meth c C => ?_)
  unfold wp_X5_takeOut at hw
  have C : CX E p l s m args meth c cX5_takeOut 3 "TaktLine" "takeOut" none [] := C
  show WS E p l e (rmOf 7 mc ms 171) s m args below meth c 3 (vx_MQ below (qcP E (poV post)) (xcP E (pxN)) args s mc ms (bsA E)) h 0 0 0 [(0, .ref this), (1, .ref p0), (2, .int p1)] []
  refine r_aload_n C dX5_takeOut_0 rfl rfl ?_
  obtain ⟨g1, hw⟩ := hw
  obtain ⟨a2, e2, hw⟩ := hw
  refine r_getA C K2 ob2 g1 (by decide) 2 (by decide) w_639 (fun _ z => z) e2 rfl dX5_takeOut_1 ?_
  refine r_iload_n C dX5_takeOut_4 rfl rfl ?_
  obtain ⟨g3, hw⟩ := hw
  obtain ⟨j4, f4, l4, k4, hw⟩ := hw
  obtain ⟨r5, e5, hw⟩ := hw
  refine a_R C ar24 g3 (by decide) (t0 := 4) rfl f4 l4 k4 e5 dX5_takeOut_5 ?_
  replace hw := hw (fun (h52_ : Hp) (c52 : Nat) (s52 : Nat) => c52 ≤ mc → s52 ≤ ms → WS E p l e (rmOf 7 mc ms 171) s m args below meth c 3 (vx_MQ below (qcP E (poV post)) (xcP E (pxN)) args s mc ms (bsA E)) h52_ c52 s52 52 [] []) (by
    intro h52_ c52 s52 hv bc52 bs52
    replace hw := hv
    clear hv
    exact r_vret C dX5_takeOut_52 bc52 bs52 ⟨rfl, hw⟩
    )
  refine r_ifnull C 52 dX5_takeOut_6 (by decide) (fun z6 => ?_) (fun x6 z6 => ?_)
  · replace hw := hw.1 z6
    subst z6
    exact (r_subk (hw (Nat.zero_le _) (Nat.zero_le _)) trivial)
  · replace hw := hw.2 x6 z6
    subst z6
    refine r_aload_n C dX5_takeOut_9 rfl rfl ?_
    obtain ⟨a7, e7, hw⟩ := hw
    refine r_getA C K2 ob2 g1 (by decide) 2 (by decide) w_639 (fun _ z => z) e7 rfl dX5_takeOut_10 ?_
    refine r_iload_n C dX5_takeOut_13 rfl rfl ?_
    refine r_null C dX5_takeOut_14 ?_
    obtain ⟨g8, hw⟩ := hw
    obtain ⟨j9, f9, l9, k9, hw⟩ := hw
    obtain ⟨h10, eh10⟩ : ∃ z, z = sR h a7 j9 none := ⟨_, rfl⟩
    replace hw := hw h10 eh10
    refine s_N C (fun f => ar24) g8 (by decide) (t0 := 4) rfl f9 l9 k9 dX5_takeOut_15 eh10 ?_
    refine r_aload_n C dX5_takeOut_16 rfl rfl ?_
    refine r_iconst (v := (0 : Int32)) C dX5_takeOut_17 (by decide) ?_
    have g11 : hT h10 p0 = 2 := by rw [eh10]; exact g1
    obtain ⟨h12, eh12⟩ : ∃ z, z = sI h10 p0 6 (0 : Int32) := ⟨_, rfl⟩
    replace hw := hw h12 eh12
    refine p_B C K2 ob2 g11 (by decide) 6 (by decide) w_647 (fun _ z => z) rfl (Or.inl rfl) (by decide +kernel) (Nat.le_of_ble_eq_true rfl) rfl dX5_takeOut_18 eh12 ?_
    refine r_aload_n C dX5_takeOut_21 rfl rfl ?_
    refine r_dup C dX5_takeOut_22 rfl ?_
    obtain ⟨g13, hw⟩ := hw
    obtain ⟨x14, e14, hw⟩ := hw
    refine r_getI C K7 ob7 g13 (by decide) 8 (by decide) w_126 (fun _ z => z) e14 rfl dX5_takeOut_23 ?_
    refine r_iconst (v := (1 : Int32)) C dX5_takeOut_26 (by decide) ?_
    refine r_iadd C dX5_takeOut_27 ?_
    obtain ⟨h15, eh15⟩ : ∃ z, z = sI h12 this 8 (x14 + (1 : Int32)) := ⟨_, rfl⟩
    replace hw := hw h15 eh15
    refine p_I C K7 ob7 g13 (by decide) 8 (by decide) w_126 (fun _ z => z) rfl (by decide +kernel) (Nat.le_of_ble_eq_true rfl) rfl dX5_takeOut_28 eh15 ?_
    refine r_aload_n C dX5_takeOut_31 rfl rfl ?_
    have g16 : hT h15 this = 7 := by rw [eh15]; exact g13
    obtain ⟨a17, e17, hw⟩ := hw
    refine r_getA C K7 ob7 g16 (by decide) 5 (by decide) w_123 (fun _ z => z) e17 rfl dX5_takeOut_32 ?_
    obtain ⟨b18, d18, hw⟩ := hw
    refine r_new (t := 6) C K6 w_411 w_412 w_57 (by decide +kernel) ob6 (by decide) b18 d18 dX5_takeOut_35 (fun q19 z19 => ?_)
    replace hw := hw q19 z19
    obtain ⟨h20, eh20⟩ : ∃ z, z = sN h15 q19 6 0 := ⟨_, rfl⟩
    replace hw := hw h20 eh20
    rw [← eh20]
    have g21 : hT h20 q19 = 6 := by rw [eh20]; exact tag_new
    refine r_dup C dX5_takeOut_38 rfl ?_
    refine r_aload_n C dX5_takeOut_39 rfl rfl ?_
    have g22 : hT h12 p0 = 2 := by rw [eh12]; exact g11
    have g23 : hT h15 p0 = 2 := by rw [eh15]; exact g22
    have g24 : hT h20 p0 = 2 := by rw [eh20]; exact tag_sN z19 g23 (by decide)
    obtain ⟨x25, e25, hw⟩ := hw
    refine r_getI C K2 ob2 g24 (by decide) 0 (by decide) w_635 (fun _ z => z) e25 rfl dX5_takeOut_40 ?_
    refine r_iload_n C dX5_takeOut_43 rfl rfl ?_
    refine r_iconst (v := (-1 : Int32)) C dX5_takeOut_44 (by decide) ?_
    refine r_callI (As := [.int x25, .int p1, .int (-1 : Int32)]) (st := [.ref q19, .ref a17]) C (m_X4_init hl hw) v_X4_init w_413 rfl ⟨leb rfl, leb rfl⟩ ⟨b18, d18⟩ rfl (leb rfl) dX5_takeOut_45 (fun _ _ z => z.elim) (kkV (K := fun hK sK => WS E p l e (rmOf 7 mc ms 171) s m args below meth c 3 (vx_MQ below (qcP E (poV post)) (xcP E (pxN)) args s mc ms (bsA E)) hK (1) (3) (45 + 3) [(0, .ref this), (1, .ref p0), (2, .int p1)] sK) (fun h26 hv => ?_))
    replace hw := hv
    clear hv
    obtain ⟨k27, n27, hw⟩ := hw
    obtain ⟨b28, d28, hw⟩ := hw
    obtain ⟨g29, hw⟩ := hw
    refine r_callV (As := [.ref q19]) (st := []) C (m_Jx4a65c_add_9ea2d hl hw) v_Jx4a65c_add_9ea2d w_259 K1 g29 (by decide) ob1 rfl ⟨leb rfl, leb rfl⟩ ⟨b28, d28⟩ rfl (leb rfl) dX5_takeOut_48 (fun _ _ z => z.elim) (kkI (K := fun hK sK => WS E p l e (rmOf 7 mc ms 171) s m args below meth c 3 (vx_MQ below (qcP E (poV post)) (xcP E (pxN)) args s mc ms (bsA E)) hK (1 + k27) (3 + n27) (48 + 3) [(0, .ref this), (1, .ref p0), (2, .int p1)] sK) (fun x27 h27 hv => ?_))
    replace hw := hv
    clear hv
    refine r_pop C dX5_takeOut_51 rfl ?_
    exact (r_subk (hw b28 d28) trivial)
theorem v_X5_takeOut : MV yX5_takeOut cX5_takeOut 3 none 2 := ⟨w_410, w_409, w_25, w_37, ⟨by decide +kernel, by decide +kernel, by decide +kernel⟩⟩

def wp_X5_pick (dE : Nat) (mc ms : Nat) (h : Hp) (this : Nat) (p0 : Nat) (p1 : Int32) (post : Hp → Prop) : Prop :=
(∀ J2 : Int32 → Prop, (∀ (v2_3 : Int32), (hT h this = 7 ∧
 (∃ a2 : Nat, hR h this 1 = some a2 ∧
 (hT h a2 = 1 ∧
 wp_Jx4a65c_size_8abf5 h a2 (fun x3 =>
 ((x3 ≤ v2_3 →
 post h) ∧ (¬ (x3 ≤ v2_3) →
 (∃ a6 : Nat, hR h this 1 = some a6 ∧
 (hT h a6 = 1 ∧
 wp_Jx4a65c_get_915e3 h a6 v2_3 (fun a7 =>
 (hT h a7 = 5 ∧
 (∃ x10 : Int32, hI h a7 1 = x10 ∧
 (∀ J101 : Prop, ((J2 (v2_3 + (1 : Int32))) → J101) →
 ((x10 = p1 →
 (∃ x12 : Int32, hI h a7 4 = x12 ∧
 ((x12 = 0 →
 (∃ x14 : Int32, hI h a7 3 = x14 ∧
 ((x14 ≤ 0 →
 J101) ∧ (¬ (x14 ≤ 0) →
 (∃ x16 : Int32, hI h a7 3 = x16 ∧
 (∀ h17, h17 = sI h a7 3 (x16 - (1 : Int32)) →
 (hT h17 p0 = 2 ∧
 (∃ a19 : Nat, hR h17 p0 2 = some a19 ∧
 (hT h17 a19 = 24 ∧
 (∃ j21 : Nat, p1 = nI j21 ∧ j21 < 2147483648 ∧ j21 < hL h17 a19 ∧
 (∀ h23, h23 = sR h17 a19 j21 (some a7) →
 (∀ h25, h25 = sI h23 p0 6 (0 : Int32) →
 (∃ a29 : Nat, hR h25 this 5 = some a29 ∧
 (1 ≤ mc ∧
 (3 ≤ ms ∧
 (∀ q31 : Nat, hT h25 q31 = 0 →
 (∀ h32, h32 = sN h25 q31 6 0 →
 (∃ x36 : Int32, hI h32 p0 0 = x36 ∧
 (∃ x40 : Int32, hI h32 a7 0 = x40 ∧
 wp_X4_init h32 q31 x36 p1 x40 (fun h41 =>
 (∃ k42 n42 : Nat,
 (1 + k42 ≤ mc ∧
 (3 + n42 ≤ ms ∧
 (hT h41 a29 = 1 ∧
 wp_Jx4a65c_add_9ea2d dE k42 n42 h41 a29 q31 (fun x42 h42 =>
 post h42))))))))))))))))))))))))) ∧ (¬ (x12 = 0) →
 J101)))) ∧ (¬ (x10 = p1) →
 J101)))))))))))))) → J2 v2_3) →
 J2 (0 : Int32))
set_option maxHeartbeats 4000000 in
set_option maxRecDepth 100000 in
theorem m_X5_pick {E : Ev} {l : Launch} (hl : l.stackTraces = false) {mc ms : Nat} {h : Hp} {this : Nat} {p0 : Nat} {p1 : Int32} {post : Hp → Prop} (hw : wp_X5_pick (eE E) mc ms h this p0 p1 post) : MT E l yX5_pick cX5_pick 5 none 7 171 mc ms h [.ref this, .ref p0, .int p1] (poV post) (pxN) := by
  refine MT.of (by decide) hl (Nat.le_of_ble_eq_true rfl) (fun p e s m args below meth c C => ?_)
  unfold wp_X5_pick at hw
  have C : CX E p l s m args meth c cX5_pick 5 "TaktLine" "pick" none [] := C
  show WS E p l e (rmOf 7 mc ms 171) s m args below meth c 5 (vx_MQ below (qcP E (poV post)) (xcP E (pxN)) args s mc ms (bsA E)) h 0 0 0 [(0, .ref this), (1, .ref p0), (2, .int p1)] []
  refine r_iconst (v := (0 : Int32)) C dX5_pick_0 (by decide) ?_
  refine r_istore_n C dX5_pick_1 rfl (by decide) [(0, .ref this), (1, .ref p0), (2, .int p1), (3, .int (0 : Int32))] ⟨rfl, rfl, rfl, rfl, trivial⟩ ?_
  replace hw := hw (fun (v2_3 : Int32) => WS E p l e (rmOf 7 mc ms 171) s m args below meth c 5 (vx_MQ below (qcP E (poV post)) (xcP E (pxN)) args s mc ms (bsA E)) h 0 0 2 [(0, .ref this), (1, .ref p0), (2, .int p1), (3, .int v2_3)] []) (by
    intro v2_3 hv
    replace hw := hv
    clear hv
    refine r_iload_n C dX5_pick_2 rfl rfl ?_
    refine r_aload_n C dX5_pick_3 rfl rfl ?_
    obtain ⟨g1, hw⟩ := hw
    obtain ⟨a2, e2, hw⟩ := hw
    refine r_getA C K7 ob7 g1 (by decide) 1 (by decide) w_119 (fun _ z => z) e2 rfl dX5_pick_4 ?_
    obtain ⟨g4, hw⟩ := hw
    refine r_callV (As := []) (st := [.int v2_3]) C (m_Jx4a65c_size_8abf5 hl hw) v_Jx4a65c_size_8abf5 w_365 K1 g4 (by decide) ob1 rfl ⟨leb rfl, leb rfl⟩ ⟨(Nat.zero_le _), (Nat.zero_le _)⟩ rfl (leb rfl) dX5_pick_7 (fun _ _ z => z.elim) (kpI (K := fun hK sK => WS E p l e (rmOf 7 mc ms 171) s m args below meth c 5 (vx_MQ below (qcP E (poV post)) (xcP E (pxN)) args s mc ms (bsA E)) hK (0) (0) (7 + 3) [(0, .ref this), (1, .ref p0), (2, .int p1), (3, .int v2_3)] sK) (fun x3 hv => ?_))
    replace hw := hv
    clear hv
    refine r_icmp_ge C 107 dX5_pick_10 (by decide) (fun z5 => ?_) (fun z5 => ?_)
    · replace hw := hw.1 z5
      exact r_vret C dX5_pick_107 (Nat.zero_le _) (Nat.zero_le _) ⟨rfl, hw⟩
    · replace hw := hw.2 z5
      refine r_aload_n C dX5_pick_13 rfl rfl ?_
      obtain ⟨a6, e6, hw⟩ := hw
      refine r_getA C K7 ob7 g1 (by decide) 1 (by decide) w_119 (fun _ z => z) e6 rfl dX5_pick_14 ?_
      refine r_iload_n C dX5_pick_17 rfl rfl ?_
      obtain ⟨g8, hw⟩ := hw
      refine r_callV (As := [.int v2_3]) (st := []) C (m_Jx4a65c_get_915e3 hl hw) v_Jx4a65c_get_915e3 w_369 K1 g8 (by decide) ob1 rfl ⟨leb rfl, leb rfl⟩ ⟨(Nat.zero_le _), (Nat.zero_le _)⟩ rfl (leb rfl) dX5_pick_18 (fun _ _ z => z.elim) (kpA (K := fun hK sK => WS E p l e (rmOf 7 mc ms 171) s m args below meth c 5 (vx_MQ below (qcP E (poV post)) (xcP E (pxN)) args s mc ms (bsA E)) hK (0) (0) (18 + 3) [(0, .ref this), (1, .ref p0), (2, .int p1), (3, .int v2_3)] sK) (fun a7 hv => ?_))
      replace hw := hv
      clear hv
      obtain ⟨g9, hw⟩ := hw
      refine r_cast (r := some a7) (t := 5) C K5 w_434 (fun x z => by cases z; exact g9) (by decide) (fun x => ob5) dX5_pick_21 ?_
      refine r_astore C dX5_pick_24 (by decide) [(0, .ref this), (1, .ref p0), (2, .int p1), (3, .int v2_3), (4, .ref a7)] ⟨rfl, rfl, rfl, rfl, rfl, trivial⟩ ?_
      refine r_aload C dX5_pick_26 rfl ?_
      obtain ⟨x10, e10, hw⟩ := hw
      refine r_getI C K5 ob5 g9 (by decide) 1 (by decide) w_582 (fun _ z => z) e10 rfl dX5_pick_28 ?_
      refine r_iload_n C dX5_pick_31 rfl rfl ?_
      replace hw := hw (WS E p l e (rmOf 7 mc ms 171) s m args below meth c 5 (vx_MQ below (qcP E (poV post)) (xcP E (pxN)) args s mc ms (bsA E)) h 0 0 101 [(0, .ref this), (1, .ref p0), (2, .int p1), (3, .int v2_3)] []) (by
        intro hv
        replace hw := hv
        clear hv
        refine r_iinc C (v2_3 + (1 : Int32)) dX5_pick_101 rfl rfl (by decide) [(0, .ref this), (1, .ref p0), (2, .int p1), (3, .int (v2_3 + (1 : Int32)))] ⟨rfl, rfl, rfl, rfl, trivial⟩ ?_
        refine r_goto C 2 dX5_pick_104 (by decide) ?_
        exact (r_subk hw ⟨rfl, rfl, rfl, rfl, trivial⟩)
        )
      refine r_icmp_ne C 101 dX5_pick_32 (by decide) (fun z11 => ?_) (fun z11 => ?_)
      · replace hw := hw.2 z11
        exact (r_subk hw ⟨rfl, rfl, rfl, rfl, trivial⟩)
      · replace hw := hw.1 z11
        refine r_aload C dX5_pick_35 rfl ?_
        obtain ⟨x12, e12, hw⟩ := hw
        refine r_getI C K5 ob5 g9 (by decide) 4 (by decide) w_589 (fun _ z => z) e12 rfl dX5_pick_37 ?_
        refine r_if_ne C 101 dX5_pick_40 (by decide) (fun z13 => ?_) (fun z13 => ?_)
        · replace hw := hw.2 z13
          exact (r_subk hw ⟨rfl, rfl, rfl, rfl, trivial⟩)
        · replace hw := hw.1 z13
          refine r_aload C dX5_pick_43 rfl ?_
          obtain ⟨x14, e14, hw⟩ := hw
          refine r_getI C K5 ob5 g9 (by decide) 3 (by decide) w_586 (fun _ z => z) e14 rfl dX5_pick_45 ?_
          refine r_if_le C 101 dX5_pick_48 (by decide) (fun z15 => ?_) (fun z15 => ?_)
          · replace hw := hw.1 z15
            exact (r_subk hw ⟨rfl, rfl, rfl, rfl, trivial⟩)
          · replace hw := hw.2 z15
            refine r_aload C dX5_pick_51 rfl ?_
            refine r_dup C dX5_pick_53 rfl ?_
            obtain ⟨x16, e16, hw⟩ := hw
            refine r_getI C K5 ob5 g9 (by decide) 3 (by decide) w_586 (fun _ z => z) e16 rfl dX5_pick_54 ?_
            refine r_iconst (v := (1 : Int32)) C dX5_pick_57 (by decide) ?_
            refine r_isub C dX5_pick_58 ?_
            obtain ⟨h17, eh17⟩ : ∃ z, z = sI h a7 3 (x16 - (1 : Int32)) := ⟨_, rfl⟩
            replace hw := hw h17 eh17
            refine p_I C K5 ob5 g9 (by decide) 3 (by decide) w_586 (fun _ z => z) rfl (by decide +kernel) (Nat.le_of_ble_eq_true rfl) rfl dX5_pick_59 eh17 ?_
            refine r_aload_n C dX5_pick_62 rfl rfl ?_
            obtain ⟨g18, hw⟩ := hw
            obtain ⟨a19, e19, hw⟩ := hw
            refine r_getA C K2 ob2 g18 (by decide) 2 (by decide) w_639 (fun _ z => z) e19 rfl dX5_pick_63 ?_
            refine r_iload_n C dX5_pick_66 rfl rfl ?_
            refine r_aload C dX5_pick_67 rfl ?_
            obtain ⟨g20, hw⟩ := hw
            obtain ⟨j21, f21, l21, k21, hw⟩ := hw
            have g22 : hT h17 a7 = 5 := by rw [eh17]; exact g9
            obtain ⟨h23, eh23⟩ : ∃ z, z = sR h17 a19 j21 (some a7) := ⟨_, rfl⟩
            replace hw := hw h23 eh23
            refine s_A C K5 (fun f => ar24) g20 (by decide) (t0 := 4) rfl f21 l21 k21 g22 ob5 (by decide) dX5_pick_69 eh23 ?_
            refine r_aload_n C dX5_pick_70 rfl rfl ?_
            refine r_iconst (v := (0 : Int32)) C dX5_pick_71 (by decide) ?_
            have g24 : hT h23 p0 = 2 := by rw [eh23]; exact g18
            obtain ⟨h25, eh25⟩ : ∃ z, z = sI h23 p0 6 (0 : Int32) := ⟨_, rfl⟩
            replace hw := hw h25 eh25
            refine p_B C K2 ob2 g24 (by decide) 6 (by decide) w_647 (fun _ z => z) rfl (Or.inl rfl) (by decide +kernel) (Nat.le_of_ble_eq_true rfl) rfl dX5_pick_72 eh25 ?_
            refine r_aload_n C dX5_pick_75 rfl rfl ?_
            have g26 : hT h17 this = 7 := by rw [eh17]; exact g1
            have g27 : hT h23 this = 7 := by rw [eh23]; exact g26
            have g28 : hT h25 this = 7 := by rw [eh25]; exact g27
            obtain ⟨a29, e29, hw⟩ := hw
            refine r_getA C K7 ob7 g28 (by decide) 5 (by decide) w_123 (fun _ z => z) e29 rfl dX5_pick_76 ?_
            obtain ⟨b30, d30, hw⟩ := hw
            refine r_new (t := 6) C K6 w_411 w_412 w_57 (by decide +kernel) ob6 (by decide) b30 d30 dX5_pick_79 (fun q31 z31 => ?_)
            replace hw := hw q31 z31
            obtain ⟨h32, eh32⟩ : ∃ z, z = sN h25 q31 6 0 := ⟨_, rfl⟩
            replace hw := hw h32 eh32
            rw [← eh32]
            have g33 : hT h32 q31 = 6 := by rw [eh32]; exact tag_new
            refine r_dup C dX5_pick_82 rfl ?_
            refine r_aload_n C dX5_pick_83 rfl rfl ?_
            have g34 : hT h25 p0 = 2 := by rw [eh25]; exact g24
            have g35 : hT h32 p0 = 2 := by rw [eh32]; exact tag_sN z31 g34 (by decide)
            obtain ⟨x36, e36, hw⟩ := hw
            refine r_getI C K2 ob2 g35 (by decide) 0 (by decide) w_635 (fun _ z => z) e36 rfl dX5_pick_84 ?_
            refine r_iload_n C dX5_pick_87 rfl rfl ?_
            refine r_aload C dX5_pick_88 rfl ?_
            have g37 : hT h23 a7 = 5 := by rw [eh23]; exact g22
            have g38 : hT h25 a7 = 5 := by rw [eh25]; exact g37
            have g39 : hT h32 a7 = 5 := by rw [eh32]; exact tag_sN z31 g38 (by decide)
            obtain ⟨x40, e40, hw⟩ := hw
            refine r_getI C K5 ob5 g39 (by decide) 0 (by decide) w_580 (fun _ z => z) e40 rfl dX5_pick_90 ?_
            refine r_callI (As := [.int x36, .int p1, .int x40]) (st := [.ref q31, .ref a29]) C (m_X4_init hl hw) v_X4_init w_413 rfl ⟨leb rfl, leb rfl⟩ ⟨b30, d30⟩ rfl (leb rfl) dX5_pick_93 (fun _ _ z => z.elim) (kkV (K := fun hK sK => WS E p l e (rmOf 7 mc ms 171) s m args below meth c 5 (vx_MQ below (qcP E (poV post)) (xcP E (pxN)) args s mc ms (bsA E)) hK (1) (3) (93 + 3) [(0, .ref this), (1, .ref p0), (2, .int p1), (3, .int v2_3), (4, .ref a7)] sK) (fun h41 hv => ?_))
            replace hw := hv
            clear hv
            obtain ⟨k42, n42, hw⟩ := hw
            obtain ⟨b43, d43, hw⟩ := hw
            obtain ⟨g44, hw⟩ := hw
            refine r_callV (As := [.ref q31]) (st := []) C (m_Jx4a65c_add_9ea2d hl hw) v_Jx4a65c_add_9ea2d w_259 K1 g44 (by decide) ob1 rfl ⟨leb rfl, leb rfl⟩ ⟨b43, d43⟩ rfl (leb rfl) dX5_pick_96 (fun _ _ z => z.elim) (kkI (K := fun hK sK => WS E p l e (rmOf 7 mc ms 171) s m args below meth c 5 (vx_MQ below (qcP E (poV post)) (xcP E (pxN)) args s mc ms (bsA E)) hK (1 + k42) (3 + n42) (96 + 3) [(0, .ref this), (1, .ref p0), (2, .int p1), (3, .int v2_3), (4, .ref a7)] sK) (fun x42 h42 hv => ?_))
            replace hw := hv
            clear hv
            refine r_pop C dX5_pick_99 rfl ?_
            exact r_vret C dX5_pick_100 b43 d43 ⟨rfl, hw⟩
    )
  exact (r_subk hw ⟨rfl, rfl, rfl, rfl, trivial⟩)
theorem v_X5_pick : MV yX5_pick cX5_pick 5 none 2 := ⟨w_433, w_432, w_26, w_37, ⟨by decide +kernel, by decide +kernel, by decide +kernel⟩⟩

def wp_X5_fitParts (dE : Nat) (mc ms : Nat) (h : Hp) (this : Nat) (p0 : Nat) (post : Hp → Prop) : Prop :=
(∀ J2 : Int32 → Hp → Nat → Nat → Prop, (∀ (v2_2 : Int32) (h2_ : Hp) (c2 : Nat) (s2 : Nat), (((10 : Int32) ≤ v2_2 →
 post h2_) ∧ (¬ ((10 : Int32) ≤ v2_2) →
 (hT h2_ this = 7 ∧
 (∃ a3 : Nat, hR h2_ this 0 = some a3 ∧
 (hT h2_ a3 = 23 ∧
 (∃ j5 : Nat, v2_2 = nI j5 ∧ j5 < 2147483648 ∧ j5 < hL h2_ a3 ∧
 (∃ a6 : Nat, hR h2_ a3 j5 = some a6 ∧
 (hT h2_ a6 = 4 ∧
 (∃ x8 : Int32, hI h2_ a6 0 = x8 ∧
 (hT h2_ p0 = 2 ∧
 (∃ x10 : Int32, hI h2_ p0 4 = x10 ∧
 (∀ J45 : Hp → Nat → Nat → Prop, (∀ (h45_ : Hp) (c45 : Nat) (s45 : Nat), (J2 (v2_2 + (1 : Int32)) h45_ c45 s45) → J45 h45_ c45 s45) →
 ((x8 = x10 →
 wp_X5_isLacking h2_ this p0 v2_2 (fun x12 =>
 ((x12 = 0 →
 J45 h2_ (c2 + 0) (s2 + 0)) ∧ (¬ (x12 = 0) →
 (∃ k14 n14 : Nat,
 (c2 + 0 + k14 ≤ mc ∧
 (s2 + 0 + n14 ≤ ms ∧
 wp_X5_takeOut dE k14 n14 h2_ this p0 v2_2 (fun h14 =>
 (∃ k16 n16 : Nat,
 (c2 + 0 + k14 + k16 ≤ mc ∧
 (s2 + 0 + n14 + n16 ≤ ms ∧
 (hT h14 this = 7 ∧
 wp_X5_pick dE k16 n16 h14 this p0 v2_2 (fun h16 =>
 J45 h16 (c2 + 0 + k14 + k16) (s2 + 0 + n14 + n16)))))))))))))) ∧ (¬ (x8 = x10) →
 J45 h2_ c2 s2)))))))))))))) → J2 v2_2 h2_ c2 s2) →
 J2 (0 : Int32) h 0 0)
set_option maxHeartbeats 4000000 in
set_option maxRecDepth 100000 in
theorem m_X5_fitParts {E : Ev} {l : Launch} (hl : l.stackTraces = false) {mc ms : Nat} {h : Hp} {this : Nat} {p0 : Nat} {post : Hp → Prop} (hw : wp_X5_fitParts (eE E) mc ms h this p0 post) : MT E l yX5_fitParts cX5_fitParts 3 none 8 195 mc ms h [.ref this, .ref p0] (poV post) (pxN) := by
  refine MT.of (by decide) hl (Nat.le_of_ble_eq_true rfl) (fun p e s m args below meth c C => ?_)
  unfold wp_X5_fitParts at hw
  have C : CX E p l s m args meth c cX5_fitParts 3 "TaktLine" "fitParts" none [] := C
  show WS E p l e (rmOf 8 mc ms 195) s m args below meth c 3 (vx_MQ below (qcP E (poV post)) (xcP E (pxN)) args s mc ms (bsA E)) h 0 0 0 [(0, .ref this), (1, .ref p0)] []
  refine r_iconst (v := (0 : Int32)) C dX5_fitParts_0 (by decide) ?_
  refine r_istore_n C dX5_fitParts_1 rfl (by decide) [(0, .ref this), (1, .ref p0), (2, .int (0 : Int32))] ⟨rfl, rfl, rfl, trivial⟩ ?_
  replace hw := hw (fun (v2_2 : Int32) (h2_ : Hp) (c2 : Nat) (s2 : Nat) => c2 ≤ mc → s2 ≤ ms → WS E p l e (rmOf 8 mc ms 195) s m args below meth c 3 (vx_MQ below (qcP E (poV post)) (xcP E (pxN)) args s mc ms (bsA E)) h2_ c2 s2 2 [(0, .ref this), (1, .ref p0), (2, .int v2_2)] []) (by
    intro v2_2 h2_ c2 s2 hv bc2 bs2
    replace hw := hv
    clear hv
    refine r_iload_n C dX5_fitParts_2 rfl rfl ?_
    refine r_bipush (v := (10 : Int32)) C dX5_fitParts_3 (by decide) ?_
    refine r_icmp_ge C 51 dX5_fitParts_5 (by decide) (fun z1 => ?_) (fun z1 => ?_)
    · replace hw := hw.1 z1
      exact r_vret C dX5_fitParts_51 bc2 bs2 ⟨rfl, hw⟩
    · replace hw := hw.2 z1
      refine r_aload_n C dX5_fitParts_8 rfl rfl ?_
      obtain ⟨g2, hw⟩ := hw
      obtain ⟨a3, e3, hw⟩ := hw
      refine r_getA C K7 ob7 g2 (by decide) 0 (by decide) w_118 (fun _ z => z) e3 rfl dX5_fitParts_9 ?_
      refine r_iload_n C dX5_fitParts_12 rfl rfl ?_
      obtain ⟨g4, hw⟩ := hw
      obtain ⟨j5, f5, l5, k5, hw⟩ := hw
      obtain ⟨a6, e6, hw⟩ := hw
      refine a_A C ar23 g4 (by decide) (t0 := 3) rfl f5 l5 k5 e6 dX5_fitParts_13 ?_
      obtain ⟨g7, hw⟩ := hw
      obtain ⟨x8, e8, hw⟩ := hw
      refine r_getI C K4 ob4 g7 (by decide) 0 (by decide) w_102 (fun _ z => z) e8 rfl dX5_fitParts_14 ?_
      refine r_aload_n C dX5_fitParts_17 rfl rfl ?_
      obtain ⟨g9, hw⟩ := hw
      obtain ⟨x10, e10, hw⟩ := hw
      refine r_getI C K2 ob2 g9 (by decide) 4 (by decide) w_643 (fun _ z => z) e10 rfl dX5_fitParts_18 ?_
      replace hw := hw (fun (h45_ : Hp) (c45 : Nat) (s45 : Nat) => c45 ≤ mc → s45 ≤ ms → WS E p l e (rmOf 8 mc ms 195) s m args below meth c 3 (vx_MQ below (qcP E (poV post)) (xcP E (pxN)) args s mc ms (bsA E)) h45_ c45 s45 45 [(0, .ref this), (1, .ref p0), (2, .int v2_2)] []) (by
        intro h45_ c45 s45 hv bc45 bs45
        replace hw := hv
        clear hv
        refine r_iinc C (v2_2 + (1 : Int32)) dX5_fitParts_45 rfl rfl (by decide) [(0, .ref this), (1, .ref p0), (2, .int (v2_2 + (1 : Int32)))] ⟨rfl, rfl, rfl, trivial⟩ ?_
        refine r_goto C 2 dX5_fitParts_48 (by decide) ?_
        exact (r_subk (hw bc45 bs45) ⟨rfl, rfl, rfl, trivial⟩)
        )
      refine r_icmp_ne C 45 dX5_fitParts_21 (by decide) (fun z11 => ?_) (fun z11 => ?_)
      · replace hw := hw.2 z11
        exact (r_subk (hw bc2 bs2) ⟨rfl, rfl, rfl, trivial⟩)
      · replace hw := hw.1 z11
        refine r_aload_n C dX5_fitParts_24 rfl rfl ?_
        refine r_aload_n C dX5_fitParts_25 rfl rfl ?_
        refine r_iload_n C dX5_fitParts_26 rfl rfl ?_
        refine r_callV (As := [.ref p0, .int v2_2]) (st := []) C (m_X5_isLacking hl hw) v_X5_isLacking w_233 K7 g2 (by decide) ob7 rfl ⟨leb rfl, leb rfl⟩ ⟨bc2, bs2⟩ rfl (leb rfl) dX5_fitParts_27 (fun _ _ z => z.elim) (kpI (K := fun hK sK => WS E p l e (rmOf 8 mc ms 195) s m args below meth c 3 (vx_MQ below (qcP E (poV post)) (xcP E (pxN)) args s mc ms (bsA E)) hK (c2 + 0) (s2 + 0) (27 + 3) [(0, .ref this), (1, .ref p0), (2, .int v2_2)] sK) (fun x12 hv => ?_))
        replace hw := hv
        clear hv
        refine r_if_eq C 45 dX5_fitParts_30 (by decide) (fun z13 => ?_) (fun z13 => ?_)
        · replace hw := hw.1 z13
          exact (r_subk (hw bc2 bs2) ⟨rfl, rfl, rfl, trivial⟩)
        · replace hw := hw.2 z13
          refine r_aload_n C dX5_fitParts_33 rfl rfl ?_
          refine r_aload_n C dX5_fitParts_34 rfl rfl ?_
          refine r_iload_n C dX5_fitParts_35 rfl rfl ?_
          obtain ⟨k14, n14, hw⟩ := hw
          obtain ⟨b15, d15, hw⟩ := hw
          refine r_callV (As := [.ref p0, .int v2_2]) (st := []) C (m_X5_takeOut hl hw) v_X5_takeOut w_407 K7 g2 (by decide) ob7 rfl ⟨leb rfl, leb rfl⟩ ⟨b15, d15⟩ rfl (leb rfl) dX5_fitParts_36 (fun _ _ z => z.elim) (kkV (K := fun hK sK => WS E p l e (rmOf 8 mc ms 195) s m args below meth c 3 (vx_MQ below (qcP E (poV post)) (xcP E (pxN)) args s mc ms (bsA E)) hK (c2 + 0 + k14) (s2 + 0 + n14) (36 + 3) [(0, .ref this), (1, .ref p0), (2, .int v2_2)] sK) (fun h14 hv => ?_))
          replace hw := hv
          clear hv
          refine r_aload_n C dX5_fitParts_39 rfl rfl ?_
          refine r_aload_n C dX5_fitParts_40 rfl rfl ?_
          refine r_iload_n C dX5_fitParts_41 rfl rfl ?_
          obtain ⟨k16, n16, hw⟩ := hw
          obtain ⟨b17, d17, hw⟩ := hw
          obtain ⟨g18, hw⟩ := hw
          refine r_callV (As := [.ref p0, .int v2_2]) (st := []) C (m_X5_pick hl hw) v_X5_pick w_430 K7 g18 (by decide) ob7 rfl ⟨leb rfl, leb rfl⟩ ⟨b17, d17⟩ rfl (leb rfl) dX5_fitParts_42 (fun _ _ z => z.elim) (kkV (K := fun hK sK => WS E p l e (rmOf 8 mc ms 195) s m args below meth c 3 (vx_MQ below (qcP E (poV post)) (xcP E (pxN)) args s mc ms (bsA E)) hK (c2 + 0 + k14 + k16) (s2 + 0 + n14 + n16) (42 + 3) [(0, .ref this), (1, .ref p0), (2, .int v2_2)] sK) (fun h16 hv => ?_))
          replace hw := hv
          clear hv
          exact (r_subk (hw b17 d17) ⟨rfl, rfl, rfl, trivial⟩)
    )
  exact (r_subk (hw (Nat.zero_le _) (Nat.zero_le _)) ⟨rfl, rfl, rfl, trivial⟩)
theorem v_X5_fitParts : MV yX5_fitParts cX5_fitParts 3 none 1 := ⟨w_406, w_405, w_24, w_37, ⟨by decide +kernel, by decide +kernel, by decide +kernel⟩⟩

def wp_X5_test (h : Hp) (this : Nat) (p0 : Nat) (post : Hp → Prop) : Prop :=
(hT h this = 7 ∧
 wp_X5_fits h this p0 (fun x1 =>
 (∀ J20 : Int32 → Prop, (∀ (t20_0 : Int32), (hT h p0 = 2 ∧
 (b01 t20_0 ∧
 (∀ h5, h5 = sI h p0 6 t20_0 →
 (∀ J36 : Int32 → Prop, (∀ (t36_0 : Int32), (b01 t36_0 ∧
 (∀ h8, h8 = sI h5 p0 7 t36_0 →
 (∀ h10, h10 = sI h8 p0 8 (0 : Int32) →
 (∀ J58 : Hp → Prop, (∀ (h58_ : Hp), (post h58_) → J58 h58_) →
 ((t20_0 = 0 →
 (∃ x15 : Int32, hI h10 this 9 = x15 ∧
 (∀ h16, h16 = sI h10 this 9 (x15 + (1 : Int32)) →
 J58 h16))) ∧ (¬ (t20_0 = 0) →
 J58 h10)))))) → J36 t36_0) →
 ((t20_0 = 0 →
 J36 (1 : Int32)) ∧ (¬ (t20_0 = 0) →
 J36 (0 : Int32))))))) → J20 t20_0) →
 (∀ J19 : Prop, ((J20 (0 : Int32)) → J19) →
 ((x1 = 0 →
 J19) ∧ (¬ (x1 = 0) →
 (hT h p0 = 2 ∧
 (∃ x20 : Int32, hI h p0 8 = x20 ∧
 ((x20 = 0 →
 J20 (1 : Int32)) ∧ (¬ (x20 = 0) →
 J19))))))))))
set_option maxHeartbeats 4000000 in
set_option maxRecDepth 100000 in
theorem m_X5_test {E : Ev} {l : Launch} (hl : l.stackTraces = false) {h : Hp} {this : Nat} {p0 : Nat} {post : Hp → Prop} (hw : wp_X5_test h this p0 post) : MT E l yX5_test cX5_test 3 none 4 88 0 0 h [.ref this, .ref p0] (poV post) (pxN) := by
  refine MT.of (by decide) hl (Nat.le_of_ble_eq_true rfl) (fun p e s m args below meth c C => ?_)
  unfold wp_X5_test at hw
  have C : CX E p l s m args meth c cX5_test 3 "TaktLine" "test" none [] := C
  show WS E p l e (rmOf 4 0 0 88) s m args below meth c 3 (vx_MQ below (qcP E (poV post)) (xcP E (pxN)) args s 0 0 (bsA E)) h 0 0 0 [(0, .ref this), (1, .ref p0)] []
  refine r_aload_n C dX5_test_0 rfl rfl ?_
  refine r_aload_n C dX5_test_1 rfl rfl ?_
  obtain ⟨g2, hw⟩ := hw
  refine r_callV (As := [.ref p0]) (st := []) C (m_X5_fits hl hw) v_X5_fits w_325 K7 g2 (by decide) ob7 rfl ⟨leb rfl, leb rfl⟩ ⟨leb rfl, leb rfl⟩ rfl (leb rfl) dX5_test_2 (fun _ _ z => z.elim) (kpI (K := fun hK sK => WS E p l e (rmOf 4 0 0 88) s m args below meth c 3 (vx_MQ below (qcP E (poV post)) (xcP E (pxN)) args s 0 0 (bsA E)) hK (0 + 0) (0 + 0) (2 + 3) [(0, .ref this), (1, .ref p0)] sK) (fun x1 hv => ?_))
  replace hw := hv
  clear hv
  replace hw := hw (fun (t20_0 : Int32) => WS E p l e (rmOf 4 0 0 88) s m args below meth c 3 (vx_MQ below (qcP E (poV post)) (xcP E (pxN)) args s 0 0 (bsA E)) h 0 0 20 [(0, .ref this), (1, .ref p0)] [.int t20_0]) (by
    intro t20_0 hv
    replace hw := hv
    clear hv
    refine r_istore_n C dX5_test_20 rfl (by decide) [(0, .ref this), (1, .ref p0), (2, .int t20_0)] ⟨rfl, rfl, rfl, trivial⟩ ?_
    refine r_aload_n C dX5_test_21 rfl rfl ?_
    refine r_iload_n C dX5_test_22 rfl rfl ?_
    obtain ⟨g3, hw⟩ := hw
    obtain ⟨y4, hw⟩ := hw
    obtain ⟨h5, eh5⟩ : ∃ z, z = sI h p0 6 t20_0 := ⟨_, rfl⟩
    replace hw := hw h5 eh5
    refine p_B C K2 ob2 g3 (by decide) 6 (by decide) w_647 (fun _ z => z) rfl y4 (by decide +kernel) (Nat.le_of_ble_eq_true rfl) rfl dX5_test_23 eh5 ?_
    refine r_aload_n C dX5_test_26 rfl rfl ?_
    refine r_iload_n C dX5_test_27 rfl rfl ?_
    replace hw := hw (fun (t36_0 : Int32) => WS E p l e (rmOf 4 0 0 88) s m args below meth c 3 (vx_MQ below (qcP E (poV post)) (xcP E (pxN)) args s 0 0 (bsA E)) h5 0 0 36 [(0, .ref this), (1, .ref p0), (2, .int t20_0)] [.int t36_0, .ref p0]) (by
      intro t36_0 hv
      replace hw := hv
      clear hv
      have g6 : hT h5 p0 = 2 := by rw [eh5]; exact g3
      obtain ⟨y7, hw⟩ := hw
      obtain ⟨h8, eh8⟩ : ∃ z, z = sI h5 p0 7 t36_0 := ⟨_, rfl⟩
      replace hw := hw h8 eh8
      refine p_B C K2 ob2 g6 (by decide) 7 (by decide) w_649 (fun _ z => z) rfl y7 (by decide +kernel) (Nat.le_of_ble_eq_true rfl) rfl dX5_test_36 eh8 ?_
      refine r_aload_n C dX5_test_39 rfl rfl ?_
      refine r_iconst (v := (0 : Int32)) C dX5_test_40 (by decide) ?_
      have g9 : hT h8 p0 = 2 := by rw [eh8]; exact g6
      obtain ⟨h10, eh10⟩ : ∃ z, z = sI h8 p0 8 (0 : Int32) := ⟨_, rfl⟩
      replace hw := hw h10 eh10
      refine p_B C K2 ob2 g9 (by decide) 8 (by decide) w_651 (fun _ z => z) rfl (Or.inl rfl) (by decide +kernel) (Nat.le_of_ble_eq_true rfl) rfl dX5_test_41 eh10 ?_
      refine r_iload_n C dX5_test_44 rfl rfl ?_
      replace hw := hw (fun (h58_ : Hp) => WS E p l e (rmOf 4 0 0 88) s m args below meth c 3 (vx_MQ below (qcP E (poV post)) (xcP E (pxN)) args s 0 0 (bsA E)) h58_ 0 0 58 [] []) (by
        intro h58_ hv
        replace hw := hv
        clear hv
        exact r_vret C dX5_test_58 (by decide) (by decide) ⟨rfl, hw⟩
        )
      refine r_if_ne C 58 dX5_test_45 (by decide) (fun z11 => ?_) (fun z11 => ?_)
      · replace hw := hw.2 z11
        exact (r_subk hw trivial)
      · replace hw := hw.1 z11
        refine r_aload_n C dX5_test_48 rfl rfl ?_
        refine r_dup C dX5_test_49 rfl ?_
        have g12 : hT h5 this = 7 := by rw [eh5]; exact g2
        have g13 : hT h8 this = 7 := by rw [eh8]; exact g12
        have g14 : hT h10 this = 7 := by rw [eh10]; exact g13
        obtain ⟨x15, e15, hw⟩ := hw
        refine r_getI C K7 ob7 g14 (by decide) 9 (by decide) w_127 (fun _ z => z) e15 rfl dX5_test_50 ?_
        refine r_iconst (v := (1 : Int32)) C dX5_test_53 (by decide) ?_
        refine r_iadd C dX5_test_54 ?_
        obtain ⟨h16, eh16⟩ : ∃ z, z = sI h10 this 9 (x15 + (1 : Int32)) := ⟨_, rfl⟩
        replace hw := hw h16 eh16
        refine p_I C K7 ob7 g14 (by decide) 9 (by decide) w_127 (fun _ z => z) rfl (by decide +kernel) (Nat.le_of_ble_eq_true rfl) rfl dX5_test_55 eh16 ?_
        exact (r_subk hw trivial)
      )
    refine r_if_ne C 35 dX5_test_28 (by decide) (fun z17 => ?_) (fun z17 => ?_)
    · replace hw := hw.2 z17
      refine r_iconst (v := (0 : Int32)) C dX5_test_35 (by decide) ?_
      exact (r_subk hw ⟨rfl, rfl, rfl, trivial⟩)
    · replace hw := hw.1 z17
      refine r_iconst (v := (1 : Int32)) C dX5_test_31 (by decide) ?_
      refine r_goto C 36 dX5_test_32 (by decide) ?_
      exact (r_subk hw ⟨rfl, rfl, rfl, trivial⟩)
    )
  replace hw := hw (WS E p l e (rmOf 4 0 0 88) s m args below meth c 3 (vx_MQ below (qcP E (poV post)) (xcP E (pxN)) args s 0 0 (bsA E)) h 0 0 19 [(0, .ref this), (1, .ref p0)] []) (by
    intro hv
    replace hw := hv
    clear hv
    refine r_iconst (v := (0 : Int32)) C dX5_test_19 (by decide) ?_
    exact (r_subk hw ⟨rfl, rfl, trivial⟩)
    )
  refine r_if_eq C 19 dX5_test_5 (by decide) (fun z18 => ?_) (fun z18 => ?_)
  · replace hw := hw.1 z18
    exact (r_subk hw ⟨rfl, rfl, trivial⟩)
  · replace hw := hw.2 z18
    refine r_aload_n C dX5_test_8 rfl rfl ?_
    obtain ⟨g19, hw⟩ := hw
    obtain ⟨x20, e20, hw⟩ := hw
    refine r_getI C K2 ob2 g19 (by decide) 8 (by decide) w_651 (fun _ z => z) e20 rfl dX5_test_9 ?_
    refine r_if_ne C 19 dX5_test_12 (by decide) (fun z21 => ?_) (fun z21 => ?_)
    · replace hw := hw.2 z21
      exact (r_subk hw ⟨rfl, rfl, trivial⟩)
    · replace hw := hw.1 z21
      refine r_iconst (v := (1 : Int32)) C dX5_test_15 (by decide) ?_
      refine r_goto C 20 dX5_test_16 (by decide) ?_
      exact (r_subk hw ⟨rfl, rfl, trivial⟩)
theorem v_X5_test : MV yX5_test cX5_test 3 none 1 := ⟨w_438, w_437, w_27, w_37, ⟨by decide +kernel, by decide +kernel, by decide +kernel⟩⟩

def wp_X5_workOnLine (dE : Nat) (mc ms : Nat) (h : Hp) (this : Nat) (post : Hp → Prop) : Prop :=
(∀ J2 : Int32 → Hp → Nat → Nat → Prop, (∀ (v2_1 : Int32) (h2_ : Hp) (c2 : Nat) (s2 : Nat), (((8 : Int32) ≤ v2_1 →
 post h2_) ∧ (¬ ((8 : Int32) ≤ v2_1) →
 (hT h2_ this = 7 ∧
 (∃ a3 : Nat, hR h2_ this 6 = some a3 ∧
 (hT h2_ a3 = 25 ∧
 (∃ j5 : Nat, v2_1 = nI j5 ∧ j5 < 2147483648 ∧ j5 < hL h2_ a3 ∧
 (∃ r6 : Option Nat, hR h2_ a3 j5 = r6 ∧
 (∀ J56 : Hp → Nat → Nat → Prop, (∀ (h56_ : Hp) (c56 : Nat) (s56 : Nat), (J2 (v2_1 + (1 : Int32)) h56_ c56 s56) → J56 h56_ c56 s56) →
 (∀ J34 : Prop, (((r6 = none →
 J56 h2_ c2 s2) ∧ (∀ x7, r6 = some x7 →
 ((v2_1 = (6 : Int32) →
 (hT h2_ x7 = 2 ∧
 (∃ x10 : Int32, hI h2_ x7 6 = x10 ∧
 ((x10 = 0 →
 wp_X5_test h2_ this x7 (fun h12 =>
 J56 h12 (c2 + 0) (s2 + 0))) ∧ (¬ (x10 = 0) →
 J56 h2_ c2 s2))))) ∧ (¬ (v2_1 = (6 : Int32)) →
 J56 h2_ c2 s2)))) → J34) →
 ((r6 = none →
 J34) ∧ (∀ x13, r6 = some x13 →
 wp_X5_isFittingStation h2_ v2_1 (fun x14 =>
 ((x14 = 0 →
 J34) ∧ (¬ (x14 = 0) →
 (∃ k16 n16 : Nat,
 (c2 + 0 + k16 ≤ mc ∧
 (s2 + 0 + n16 ≤ ms ∧
 wp_X5_fitParts dE k16 n16 h2_ this x13 (fun h16 =>
 J56 h16 (c2 + 0 + k16) (s2 + 0 + n16))))))))))))))))))) → J2 v2_1 h2_ c2 s2) →
 J2 (0 : Int32) h 0 0)
set_option maxHeartbeats 4000000 in
set_option maxRecDepth 100000 in
theorem m_X5_workOnLine {E : Ev} {l : Launch} (hl : l.stackTraces = false) {mc ms : Nat} {h : Hp} {this : Nat} {post : Hp → Prop} (hw : wp_X5_workOnLine (eE E) mc ms h this post) : MT E l yX5_workOnLine cX5_workOnLine 3 none 9 217 mc ms h [.ref this] (poV post) (pxN) := by
  refine MT.of (by decide) hl (Nat.le_of_ble_eq_true rfl) (fun p e s m args below meth c C => ?_)
  unfold wp_X5_workOnLine at hw
  have C : CX E p l s m args meth c cX5_workOnLine 3 "TaktLine" "workOnLine" none [] := C
  show WS E p l e (rmOf 9 mc ms 217) s m args below meth c 3 (vx_MQ below (qcP E (poV post)) (xcP E (pxN)) args s mc ms (bsA E)) h 0 0 0 [(0, .ref this)] []
  refine r_iconst (v := (0 : Int32)) C dX5_workOnLine_0 (by decide) ?_
  refine r_istore_n C dX5_workOnLine_1 rfl (by decide) [(0, .ref this), (1, .int (0 : Int32))] ⟨rfl, rfl, trivial⟩ ?_
  replace hw := hw (fun (v2_1 : Int32) (h2_ : Hp) (c2 : Nat) (s2 : Nat) => c2 ≤ mc → s2 ≤ ms → WS E p l e (rmOf 9 mc ms 217) s m args below meth c 3 (vx_MQ below (qcP E (poV post)) (xcP E (pxN)) args s mc ms (bsA E)) h2_ c2 s2 2 [(0, .ref this), (1, .int v2_1)] []) (by
    intro v2_1 h2_ c2 s2 hv bc2 bs2
    replace hw := hv
    clear hv
    refine r_iload_n C dX5_workOnLine_2 rfl rfl ?_
    refine r_bipush (v := (8 : Int32)) C dX5_workOnLine_3 (by decide) ?_
    refine r_icmp_ge C 62 dX5_workOnLine_5 (by decide) (fun z1 => ?_) (fun z1 => ?_)
    · replace hw := hw.1 z1
      exact r_vret C dX5_workOnLine_62 bc2 bs2 ⟨rfl, hw⟩
    · replace hw := hw.2 z1
      refine r_aload_n C dX5_workOnLine_8 rfl rfl ?_
      obtain ⟨g2, hw⟩ := hw
      obtain ⟨a3, e3, hw⟩ := hw
      refine r_getA C K7 ob7 g2 (by decide) 6 (by decide) w_124 (fun _ z => z) e3 rfl dX5_workOnLine_9 ?_
      refine r_iload_n C dX5_workOnLine_12 rfl rfl ?_
      obtain ⟨g4, hw⟩ := hw
      obtain ⟨j5, f5, l5, k5, hw⟩ := hw
      obtain ⟨r6, e6, hw⟩ := hw
      refine a_R C ar25 g4 (by decide) (t0 := 5) rfl f5 l5 k5 e6 dX5_workOnLine_13 ?_
      refine r_astoreq_n C dX5_workOnLine_14 rfl (by decide) [(0, .ref this), (1, .int v2_1), (2, va_rf r6)] ⟨rfl, rfl, rfl, trivial⟩ ?_
      refine r_aloadq_n C dX5_workOnLine_15 rfl rfl ?_
      replace hw := hw (fun (h56_ : Hp) (c56 : Nat) (s56 : Nat) => c56 ≤ mc → s56 ≤ ms → WS E p l e (rmOf 9 mc ms 217) s m args below meth c 3 (vx_MQ below (qcP E (poV post)) (xcP E (pxN)) args s mc ms (bsA E)) h56_ c56 s56 56 [(0, .ref this), (1, .int v2_1)] []) (by
        intro h56_ c56 s56 hv bc56 bs56
        replace hw := hv
        clear hv
        refine r_iinc C (v2_1 + (1 : Int32)) dX5_workOnLine_56 rfl rfl (by decide) [(0, .ref this), (1, .int (v2_1 + (1 : Int32)))] ⟨rfl, rfl, trivial⟩ ?_
        refine r_goto C 2 dX5_workOnLine_59 (by decide) ?_
        exact (r_subk (hw bc56 bs56) ⟨rfl, rfl, trivial⟩)
        )
      replace hw := hw (WS E p l e (rmOf 9 mc ms 217) s m args below meth c 3 (vx_MQ below (qcP E (poV post)) (xcP E (pxN)) args s mc ms (bsA E)) h2_ c2 s2 34 [(0, .ref this), (1, .int v2_1), (2, va_rf r6)] []) (by
        intro hv
        replace hw := hv
        clear hv
        refine r_aloadq_n C dX5_workOnLine_34 rfl rfl ?_
        refine r_ifnull C 56 dX5_workOnLine_35 (by decide) (fun z7 => ?_) (fun x7 z7 => ?_)
        · replace hw := hw.1 z7
          subst z7
          exact (r_subk (hw bc2 bs2) ⟨rfl, rfl, trivial⟩)
        · replace hw := hw.2 x7 z7
          subst z7
          refine r_iload_n C dX5_workOnLine_38 rfl rfl ?_
          refine r_bipush (v := (6 : Int32)) C dX5_workOnLine_39 (by decide) ?_
          refine r_icmp_ne C 56 dX5_workOnLine_41 (by decide) (fun z8 => ?_) (fun z8 => ?_)
          · replace hw := hw.2 z8
            exact (r_subk (hw bc2 bs2) ⟨rfl, rfl, trivial⟩)
          · replace hw := hw.1 z8
            refine r_aload_n C dX5_workOnLine_44 rfl rfl ?_
            obtain ⟨g9, hw⟩ := hw
            obtain ⟨x10, e10, hw⟩ := hw
            refine r_getI C K2 ob2 g9 (by decide) 6 (by decide) w_647 (fun _ z => z) e10 rfl dX5_workOnLine_45 ?_
            refine r_if_ne C 56 dX5_workOnLine_48 (by decide) (fun z11 => ?_) (fun z11 => ?_)
            · replace hw := hw.2 z11
              exact (r_subk (hw bc2 bs2) ⟨rfl, rfl, trivial⟩)
            · replace hw := hw.1 z11
              refine r_aload_n C dX5_workOnLine_51 rfl rfl ?_
              refine r_aload_n C dX5_workOnLine_52 rfl rfl ?_
              refine r_callV (As := [.ref x7]) (st := []) C (m_X5_test hl hw) v_X5_test w_435 K7 g2 (by decide) ob7 rfl ⟨leb rfl, leb rfl⟩ ⟨bc2, bs2⟩ rfl (leb rfl) dX5_workOnLine_53 (fun _ _ z => z.elim) (kkV (K := fun hK sK => WS E p l e (rmOf 9 mc ms 217) s m args below meth c 3 (vx_MQ below (qcP E (poV post)) (xcP E (pxN)) args s mc ms (bsA E)) hK (c2 + 0) (s2 + 0) (53 + 3) [(0, .ref this), (1, .int v2_1), (2, .ref x7)] sK) (fun h12 hv => ?_))
              replace hw := hv
              clear hv
              exact (r_subk (hw bc2 bs2) ⟨rfl, rfl, trivial⟩)
        )
      refine r_ifnull C 34 dX5_workOnLine_16 (by decide) (fun z13 => ?_) (fun x13 z13 => ?_)
      · replace hw := hw.1 z13
        subst z13
        exact (r_subk hw ⟨rfl, rfl, rfl, trivial⟩)
      · replace hw := hw.2 x13 z13
        subst z13
        refine r_iload_n C dX5_workOnLine_19 rfl rfl ?_
        refine r_callS (As := [.int v2_1]) (st := []) C (m_X5_isFittingStation hl hw) v_X5_isFittingStation w_400 rfl ⟨leb rfl, leb rfl⟩ ⟨bc2, bs2⟩ rfl (leb rfl) dX5_workOnLine_20 (fun _ _ z => z.elim) (kpI (K := fun hK sK => WS E p l e (rmOf 9 mc ms 217) s m args below meth c 3 (vx_MQ below (qcP E (poV post)) (xcP E (pxN)) args s mc ms (bsA E)) hK (c2 + 0) (s2 + 0) (20 + 3) [(0, .ref this), (1, .int v2_1), (2, .ref x13)] sK) (fun x14 hv => ?_))
        replace hw := hv
        clear hv
        refine r_if_eq C 34 dX5_workOnLine_23 (by decide) (fun z15 => ?_) (fun z15 => ?_)
        · replace hw := hw.1 z15
          exact (r_subk hw ⟨rfl, rfl, rfl, trivial⟩)
        · replace hw := hw.2 z15
          refine r_aload_n C dX5_workOnLine_26 rfl rfl ?_
          refine r_aload_n C dX5_workOnLine_27 rfl rfl ?_
          obtain ⟨k16, n16, hw⟩ := hw
          obtain ⟨b17, d17, hw⟩ := hw
          refine r_callV (As := [.ref x13]) (st := []) C (m_X5_fitParts hl hw) v_X5_fitParts w_403 K7 g2 (by decide) ob7 rfl ⟨leb rfl, leb rfl⟩ ⟨b17, d17⟩ rfl (leb rfl) dX5_workOnLine_28 (fun _ _ z => z.elim) (kkV (K := fun hK sK => WS E p l e (rmOf 9 mc ms 217) s m args below meth c 3 (vx_MQ below (qcP E (poV post)) (xcP E (pxN)) args s mc ms (bsA E)) hK (c2 + 0 + k16) (s2 + 0 + n16) (28 + 3) [(0, .ref this), (1, .int v2_1), (2, .ref x13)] sK) (fun h16 hv => ?_))
          replace hw := hv
          clear hv
          refine r_goto C 56 dX5_workOnLine_31 (by decide) ?_
          exact (r_subk (hw b17 d17) ⟨rfl, rfl, trivial⟩)
    )
  exact (r_subk (hw (Nat.zero_le _) (Nat.zero_le _)) ⟨rfl, rfl, trivial⟩)
theorem v_X5_workOnLine : MV yX5_workOnLine cX5_workOnLine 3 none 0 := ⟨w_399, w_398, w_23, w_37, ⟨by decide +kernel, by decide +kernel, by decide +kernel⟩⟩

def wp_X5_takt (dE : Nat) (mc ms : Nat) (h : Hp) (this : Nat) (p0 : Int32) (post : Int32 → Hp → Prop) (px : String → Hp → Prop) : Prop :=
(∀ J11 : Prop, ((1 ≤ mc ∧
 (6 ≤ ms ∧
 px XA h)) → J11) →
 ((p0 < (1 : Int32) →
 J11) ∧ (¬ (p0 < (1 : Int32)) →
 ((p0 ≤ (20 : Int32) →
 (∀ J25 : Int32 → Int32 → Hp → Nat → Nat → Prop, (∀ (v25_2 : Int32) (v25_3 : Int32) (h25_ : Hp) (c25 : Nat) (s25 : Nat), ((p0 ≤ v25_3 →
 post v25_2 h25_) ∧ (¬ (p0 ≤ v25_3) →
 (∃ k5 n5 : Nat,
 (c25 + k5 ≤ mc ∧
 (s25 + n5 ≤ ms ∧
 (hT h25_ this = 7 ∧
 wp_X5_sendBackToLane dE k5 n5 h25_ this (fun h5 =>
 (hT h5 this = 7 ∧
 wp_X5_leaveLine h5 this (fun x8 h8 =>
 (∀ J44 : Int32 → Prop, (∀ (v44_2 : Int32), (hT h8 this = 7 ∧
 wp_X5_moveOn h8 this (fun h10 =>
 (hT h10 this = 7 ∧
 wp_X5_comeFromLane h10 this (fun h12 =>
 (hT h12 this = 7 ∧
 wp_X5_comeFromOrders h12 this (fun h14 =>
 (∃ k16 n16 : Nat,
 (c25 + k5 + 0 + 0 + 0 + 0 + k16 ≤ mc ∧
 (s25 + n5 + 0 + 0 + 0 + 0 + n16 ≤ ms ∧
 (hT h14 this = 7 ∧
 wp_X5_workOnLine dE k16 n16 h14 this (fun h16 =>
 (hT h16 this = 7 ∧
 (∃ x20 : Int32, hI h16 this 7 = x20 ∧
 (∀ h21, h21 = sI h16 this 7 (x20 + (1 : Int32)) →
 J25 v44_2 (v25_3 + (1 : Int32)) h21 (c25 + k5 + 0 + 0 + 0 + 0 + k16) (s25 + n5 + 0 + 0 + 0 + 0 + n16))))))))))))))) → J44 v44_2) →
 ((x8 = 0 →
 J44 v25_2) ∧ (¬ (x8 = 0) →
 J44 (v25_2 + (1 : Int32)))))))))))))) → J25 v25_2 v25_3 h25_ c25 s25) →
 J25 (0 : Int32) (0 : Int32) h 0 0)) ∧ (¬ (p0 ≤ (20 : Int32)) →
 J11)))))
set_option maxHeartbeats 4000000 in
set_option maxRecDepth 100000 in
theorem m_X5_takt {E : Ev} {l : Launch} (hl : l.stackTraces = false) {mc ms : Nat} {h : Hp} {this : Nat} {p0 : Int32} {post : Int32 → Hp → Prop} {px : String → Hp → Prop} (hw : wp_X5_takt (eE E) mc ms h this p0 post px) : MT E l yX5_takt cX5_takt 4 (some .int) 10 239 mc ms h [.ref this, .int p0] (poI post) (px) := by
  refine MT.of (by decide) hl (Nat.le_of_ble_eq_true rfl) (fun p e s m args below meth c C => ?_)
  unfold wp_X5_takt at hw
  have C : CX E p l s m args meth c cX5_takt 4 "TaktLine" "takt" (some .int) [] := C
  show WS E p l e (rmOf 10 mc ms 239) s m args below meth c 4 (vx_MQ below (qcP E (poI post)) (xcP E (px)) args s mc ms (bsA E)) h 0 0 0 [(0, .ref this), (1, .int p0)] []
  refine r_iload_n C dX5_takt_0 rfl rfl ?_
  refine r_iconst (v := (1 : Int32)) C dX5_takt_1 (by decide) ?_
  replace hw := hw (WS E p l e (rmOf 10 mc ms 239) s m args below meth c 4 (vx_MQ below (qcP E (poI post)) (xcP E (px)) args s mc ms (bsA E)) h 0 0 11 [] []) (by
    intro hv
    replace hw := hv
    clear hv
    obtain ⟨b1, d1, hw⟩ := hw
    exact r_throwS C thrA (text := "takts is out of range") (by decide +kernel) dX5_takt_11 dX5_takt_14 dX5_takt_15 dX5_takt_17 dX5_takt_20 (leb rfl) (leb rfl) b1 d1 hw
    )
  refine r_icmp_lt C 11 dX5_takt_2 (by decide) (fun z2 => ?_) (fun z2 => ?_)
  · replace hw := hw.1 z2
    exact (r_subk hw trivial)
  · replace hw := hw.2 z2
    refine r_iload_n C dX5_takt_5 rfl rfl ?_
    refine r_bipush (v := (20 : Int32)) C dX5_takt_6 (by decide) ?_
    refine r_icmp_le C 21 dX5_takt_8 (by decide) (fun z3 => ?_) (fun z3 => ?_)
    · replace hw := hw.1 z3
      refine r_iconst (v := (0 : Int32)) C dX5_takt_21 (by decide) ?_
      refine r_istore_n C dX5_takt_22 rfl (by decide) [(0, .ref this), (1, .int p0), (2, .int (0 : Int32))] ⟨rfl, rfl, rfl, trivial⟩ ?_
      refine r_iconst (v := (0 : Int32)) C dX5_takt_23 (by decide) ?_
      refine r_istore_n C dX5_takt_24 rfl (by decide) [(0, .ref this), (1, .int p0), (2, .int (0 : Int32)), (3, .int (0 : Int32))] ⟨rfl, rfl, rfl, rfl, trivial⟩ ?_
      replace hw := hw (fun (v25_2 : Int32) (v25_3 : Int32) (h25_ : Hp) (c25 : Nat) (s25 : Nat) => c25 ≤ mc → s25 ≤ ms → WS E p l e (rmOf 10 mc ms 239) s m args below meth c 4 (vx_MQ below (qcP E (poI post)) (xcP E (px)) args s mc ms (bsA E)) h25_ c25 s25 25 [(0, .ref this), (1, .int p0), (2, .int v25_2), (3, .int v25_3)] []) (by
        intro v25_2 v25_3 h25_ c25 s25 hv bc25 bs25
        replace hw := hv
        clear hv
        refine r_iload_n C dX5_takt_25 rfl rfl ?_
        refine r_iload_n C dX5_takt_26 rfl rfl ?_
        refine r_icmp_ge C 76 dX5_takt_27 (by decide) (fun z4 => ?_) (fun z4 => ?_)
        · replace hw := hw.1 z4
          refine r_iload_n C dX5_takt_76 rfl rfl ?_
          exact r_iret C dX5_takt_77 bc25 bs25 ⟨_, rfl, hw⟩
        · replace hw := hw.2 z4
          refine r_aload_n C dX5_takt_30 rfl rfl ?_
          obtain ⟨k5, n5, hw⟩ := hw
          obtain ⟨b6, d6, hw⟩ := hw
          obtain ⟨g7, hw⟩ := hw
          refine r_callV (As := []) (st := []) C (m_X5_sendBackToLane hl hw) v_X5_sendBackToLane w_221 K7 g7 (by decide) ob7 rfl ⟨leb rfl, leb rfl⟩ ⟨b6, d6⟩ rfl (leb rfl) dX5_takt_31 (fun _ _ z => z.elim) (kkV (K := fun hK sK => WS E p l e (rmOf 10 mc ms 239) s m args below meth c 4 (vx_MQ below (qcP E (poI post)) (xcP E (px)) args s mc ms (bsA E)) hK (c25 + k5) (s25 + n5) (31 + 3) [(0, .ref this), (1, .int p0), (2, .int v25_2), (3, .int v25_3)] sK) (fun h5 hv => ?_))
          replace hw := hv
          clear hv
          refine r_aload_n C dX5_takt_34 rfl rfl ?_
          obtain ⟨g9, hw⟩ := hw
          refine r_callV (As := []) (st := []) C (m_X5_leaveLine hl hw) v_X5_leaveLine w_317 K7 g9 (by decide) ob7 rfl ⟨leb rfl, leb rfl⟩ ⟨b6, d6⟩ rfl (leb rfl) dX5_takt_35 (fun _ _ z => z.elim) (kkI (K := fun hK sK => WS E p l e (rmOf 10 mc ms 239) s m args below meth c 4 (vx_MQ below (qcP E (poI post)) (xcP E (px)) args s mc ms (bsA E)) hK (c25 + k5 + 0) (s25 + n5 + 0) (35 + 3) [(0, .ref this), (1, .int p0), (2, .int v25_2), (3, .int v25_3)] sK) (fun x8 h8 hv => ?_))
          replace hw := hv
          clear hv
          replace hw := hw (fun (v44_2 : Int32) => WS E p l e (rmOf 10 mc ms 239) s m args below meth c 4 (vx_MQ below (qcP E (poI post)) (xcP E (px)) args s mc ms (bsA E)) h8 (c25 + k5 + 0) (s25 + n5 + 0) 44 [(0, .ref this), (1, .int p0), (2, .int v44_2), (3, .int v25_3)] []) (by
            intro v44_2 hv
            replace hw := hv
            clear hv
            refine r_aload_n C dX5_takt_44 rfl rfl ?_
            obtain ⟨g11, hw⟩ := hw
            refine r_callV (As := []) (st := []) C (m_X5_moveOn hl hw) v_X5_moveOn w_345 K7 g11 (by decide) ob7 rfl ⟨leb rfl, leb rfl⟩ ⟨b6, d6⟩ rfl (leb rfl) dX5_takt_45 (fun _ _ z => z.elim) (kkV (K := fun hK sK => WS E p l e (rmOf 10 mc ms 239) s m args below meth c 4 (vx_MQ below (qcP E (poI post)) (xcP E (px)) args s mc ms (bsA E)) hK (c25 + k5 + 0 + 0) (s25 + n5 + 0 + 0) (45 + 3) [(0, .ref this), (1, .int p0), (2, .int v44_2), (3, .int v25_3)] sK) (fun h10 hv => ?_))
            replace hw := hv
            clear hv
            refine r_aload_n C dX5_takt_48 rfl rfl ?_
            obtain ⟨g13, hw⟩ := hw
            refine r_callV (As := []) (st := []) C (m_X5_comeFromLane hl hw) v_X5_comeFromLane w_361 K7 g13 (by decide) ob7 rfl ⟨leb rfl, leb rfl⟩ ⟨b6, d6⟩ rfl (leb rfl) dX5_takt_49 (fun _ _ z => z.elim) (kkV (K := fun hK sK => WS E p l e (rmOf 10 mc ms 239) s m args below meth c 4 (vx_MQ below (qcP E (poI post)) (xcP E (px)) args s mc ms (bsA E)) hK (c25 + k5 + 0 + 0 + 0) (s25 + n5 + 0 + 0 + 0) (49 + 3) [(0, .ref this), (1, .int p0), (2, .int v44_2), (3, .int v25_3)] sK) (fun h12 hv => ?_))
            replace hw := hv
            clear hv
            refine r_aload_n C dX5_takt_52 rfl rfl ?_
            obtain ⟨g15, hw⟩ := hw
            refine r_callV (As := []) (st := []) C (m_X5_comeFromOrders hl hw) v_X5_comeFromOrders w_392 K7 g15 (by decide) ob7 rfl ⟨leb rfl, leb rfl⟩ ⟨b6, d6⟩ rfl (leb rfl) dX5_takt_53 (fun _ _ z => z.elim) (kkV (K := fun hK sK => WS E p l e (rmOf 10 mc ms 239) s m args below meth c 4 (vx_MQ below (qcP E (poI post)) (xcP E (px)) args s mc ms (bsA E)) hK (c25 + k5 + 0 + 0 + 0 + 0) (s25 + n5 + 0 + 0 + 0 + 0) (53 + 3) [(0, .ref this), (1, .int p0), (2, .int v44_2), (3, .int v25_3)] sK) (fun h14 hv => ?_))
            replace hw := hv
            clear hv
            refine r_aload_n C dX5_takt_56 rfl rfl ?_
            obtain ⟨k16, n16, hw⟩ := hw
            obtain ⟨b17, d17, hw⟩ := hw
            obtain ⟨g18, hw⟩ := hw
            refine r_callV (As := []) (st := []) C (m_X5_workOnLine hl hw) v_X5_workOnLine w_396 K7 g18 (by decide) ob7 rfl ⟨leb rfl, leb rfl⟩ ⟨b17, d17⟩ rfl (leb rfl) dX5_takt_57 (fun _ _ z => z.elim) (kkV (K := fun hK sK => WS E p l e (rmOf 10 mc ms 239) s m args below meth c 4 (vx_MQ below (qcP E (poI post)) (xcP E (px)) args s mc ms (bsA E)) hK (c25 + k5 + 0 + 0 + 0 + 0 + k16) (s25 + n5 + 0 + 0 + 0 + 0 + n16) (57 + 3) [(0, .ref this), (1, .int p0), (2, .int v44_2), (3, .int v25_3)] sK) (fun h16 hv => ?_))
            replace hw := hv
            clear hv
            refine r_aload_n C dX5_takt_60 rfl rfl ?_
            refine r_dup C dX5_takt_61 rfl ?_
            obtain ⟨g19, hw⟩ := hw
            obtain ⟨x20, e20, hw⟩ := hw
            refine r_getI C K7 ob7 g19 (by decide) 7 (by decide) w_125 (fun _ z => z) e20 rfl dX5_takt_62 ?_
            refine r_iconst (v := (1 : Int32)) C dX5_takt_65 (by decide) ?_
            refine r_iadd C dX5_takt_66 ?_
            obtain ⟨h21, eh21⟩ : ∃ z, z = sI h16 this 7 (x20 + (1 : Int32)) := ⟨_, rfl⟩
            replace hw := hw h21 eh21
            refine p_I C K7 ob7 g19 (by decide) 7 (by decide) w_125 (fun _ z => z) rfl (by decide +kernel) (Nat.le_of_ble_eq_true rfl) rfl dX5_takt_67 eh21 ?_
            refine r_iinc C (v25_3 + (1 : Int32)) dX5_takt_70 rfl rfl (by decide) [(0, .ref this), (1, .int p0), (2, .int v44_2), (3, .int (v25_3 + (1 : Int32)))] ⟨rfl, rfl, rfl, rfl, trivial⟩ ?_
            refine r_goto C 25 dX5_takt_73 (by decide) ?_
            exact (r_subk (hw b17 d17) ⟨rfl, rfl, rfl, rfl, trivial⟩)
            )
          refine r_if_eq C 44 dX5_takt_38 (by decide) (fun z22 => ?_) (fun z22 => ?_)
          · replace hw := hw.1 z22
            exact (r_subk hw ⟨rfl, rfl, rfl, rfl, trivial⟩)
          · replace hw := hw.2 z22
            refine r_iinc C (v25_2 + (1 : Int32)) dX5_takt_41 rfl rfl (by decide) [(0, .ref this), (1, .int p0), (2, .int (v25_2 + (1 : Int32))), (3, .int v25_3)] ⟨rfl, rfl, rfl, rfl, trivial⟩ ?_
            exact (r_subk hw ⟨rfl, rfl, rfl, rfl, trivial⟩)
        )
      exact (r_subk (hw (Nat.zero_le _) (Nat.zero_le _)) ⟨rfl, rfl, rfl, rfl, trivial⟩)
    · replace hw := hw.2 z3
      exact (r_subk hw trivial)
theorem v_X5_takt : MV yX5_takt cX5_takt 4 (some .int) 1 := ⟨w_152, w_150, w_151, w_37, ⟨by decide +kernel, by decide +kernel, by decide +kernel⟩⟩

def wp_X5_checkCar (h : Hp) (this : Nat) (p0 : Int32) (post : Prop) (px : String → Prop) : Prop :=
(∀ J15 : Prop, ((px XB) → J15) →
 ((p0 < 0 →
 J15) ∧ (¬ (p0 < 0) →
 (hT h this = 7 ∧
 (∃ a3 : Nat, hR h this 2 = some a3 ∧
 (hT h a3 = 1 ∧
 wp_Jx4a65c_size_8abf5 h a3 (fun x4 =>
 ((p0 < x4 →
 post) ∧ (¬ (p0 < x4) →
 J15)))))))))
set_option maxHeartbeats 4000000 in
set_option maxRecDepth 100000 in
theorem m_X5_checkCar {E : Ev} {l : Launch} (hl : l.stackTraces = false) {h : Hp} {this : Nat} {p0 : Int32} {post : Prop} {px : String → Prop} (hw : wp_X5_checkCar h this p0 post px) : MT E l yX5_checkCar cX5_checkCar 2 none 6 102 1 6 h [.ref this, .int p0] (puV h post) (pxP h px) := by
  refine MT.of (by decide) hl (Nat.le_of_ble_eq_true rfl) (fun p e s m args below meth c C => ?_)
  unfold wp_X5_checkCar at hw
  have C : CX E p l s m args meth c cX5_checkCar 2 "TaktLine" "checkCar" none [] := C
  show WS E p l e (rmOf 6 1 6 102) s m args below meth c 2 (vx_MQ below (qcP E (puV h post)) (xcP E (pxP h px)) args s 1 6 (bsA E)) h 0 0 0 [(0, .ref this), (1, .int p0)] []
  refine r_iload_n C dX5_checkCar_0 rfl rfl ?_
  replace hw := hw (WS E p l e (rmOf 6 1 6 102) s m args below meth c 2 (vx_MQ below (qcP E (puV h post)) (xcP E (pxP h px)) args s 1 6 (bsA E)) h 0 0 15 [] []) (by
    intro hv
    replace hw := hv
    clear hv
    exact r_throwSW C thrB (text := "there is no such car") (by decide +kernel) dX5_checkCar_15 dX5_checkCar_18 dX5_checkCar_19 dX5_checkCar_22 dX5_checkCar_25 (leb rfl) (leb rfl) (by decide) (by decide) ⟨hw, rfl⟩
    )
  refine r_if_lt C 15 dX5_checkCar_1 (by decide) (fun z1 => ?_) (fun z1 => ?_)
  · replace hw := hw.1 z1
    exact (r_subk hw trivial)
  · replace hw := hw.2 z1
    refine r_iload_n C dX5_checkCar_4 rfl rfl ?_
    refine r_aload_n C dX5_checkCar_5 rfl rfl ?_
    obtain ⟨g2, hw⟩ := hw
    obtain ⟨a3, e3, hw⟩ := hw
    refine r_getA C K7 ob7 g2 (by decide) 2 (by decide) w_120 (fun _ z => z) e3 rfl dX5_checkCar_6 ?_
    obtain ⟨g5, hw⟩ := hw
    refine r_callV (As := []) (st := [.int p0]) C (m_Jx4a65c_size_8abf5 hl hw) v_Jx4a65c_size_8abf5 w_365 K1 g5 (by decide) ob1 rfl ⟨leb rfl, leb rfl⟩ ⟨leb rfl, leb rfl⟩ rfl (leb rfl) dX5_checkCar_9 (fun _ _ z => z.elim) (kpI (K := fun hK sK => WS E p l e (rmOf 6 1 6 102) s m args below meth c 2 (vx_MQ below (qcP E (puV h post)) (xcP E (pxP h px)) args s 1 6 (bsA E)) hK (0 + 0) (0 + 0) (9 + 3) [(0, .ref this), (1, .int p0)] sK) (fun x4 hv => ?_))
    replace hw := hv
    clear hv
    refine r_icmp_lt C 26 dX5_checkCar_12 (by decide) (fun z6 => ?_) (fun z6 => ?_)
    · replace hw := hw.1 z6
      exact r_vret C dX5_checkCar_26 (by decide) (by decide) ⟨rfl, hw, rfl⟩
    · replace hw := hw.2 z6
      exact (r_subk hw trivial)
theorem v_X5_checkCar : MV yX5_checkCar cX5_checkCar 2 none 1 := ⟨w_454, w_453, w_29, w_37, ⟨by decide +kernel, by decide +kernel, by decide +kernel⟩⟩

def wp_X5_existingCar (h : Hp) (this : Nat) (p0 : Int32) (post : Nat → Prop) (px : String → Prop) : Prop :=
(hT h this = 7 ∧
 wp_X5_checkCar h this p0 ((∃ a3 : Nat, hR h this 2 = some a3 ∧
 (hT h a3 = 1 ∧
 wp_Jx4a65c_get_915e3 h a3 p0 (fun a4 =>
 (hT h a4 = 2 ∧
 post a4))))) px)
set_option maxHeartbeats 4000000 in
set_option maxRecDepth 100000 in
theorem m_X5_existingCar {E : Ev} {l : Launch} (hl : l.stackTraces = false) {h : Hp} {this : Nat} {p0 : Int32} {post : Nat → Prop} {px : String → Prop} (hw : wp_X5_existingCar h this p0 post px) : MT E l yX5_existingCar cX5_existingCar 2 (some (.object "TaktLine$Car")) 7 123 1 6 h [.ref this, .int p0] (puA h post) (pxP h px) := by
  refine MT.of (by decide) hl (Nat.le_of_ble_eq_true rfl) (fun p e s m args below meth c C => ?_)
  unfold wp_X5_existingCar at hw
  have C : CX E p l s m args meth c cX5_existingCar 2 "TaktLine" "existingCar" (some (.object "TaktLine$Car")) [] := C
  show WS E p l e (rmOf 7 1 6 123) s m args below meth c 2 (vx_MQ below (qcP E (puA h post)) (xcP E (pxP h px)) args s 1 6 (bsA E)) h 0 0 0 [(0, .ref this), (1, .int p0)] []
  refine r_aload_n C dX5_existingCar_0 rfl rfl ?_
  refine r_iload_n C dX5_existingCar_1 rfl rfl ?_
  obtain ⟨g2, hw⟩ := hw
  refine r_callV (As := [.int p0]) (st := []) C (m_X5_checkCar hl hw) v_X5_checkCar w_451 K7 g2 (by decide) ob7 rfl ⟨leb rfl, leb rfl⟩ ⟨leb rfl, leb rfl⟩ rfl (leb rfl) dX5_existingCar_2 (fun X h9 hx => by obtain ⟨hx, rfl⟩ := hx; exact r_out C ⟨hx, rfl⟩ (by decide) (by decide)) (kpV (K := fun hK sK => WS E p l e (rmOf 7 1 6 123) s m args below meth c 2 (vx_MQ below (qcP E (puA h post)) (xcP E (pxP h px)) args s 1 6 (bsA E)) hK (0 + 1) (0 + 6) (2 + 3) [(0, .ref this), (1, .int p0)] sK) (fun hv => ?_))
  replace hw := hv
  clear hv
  refine r_aload_n C dX5_existingCar_5 rfl rfl ?_
  obtain ⟨a3, e3, hw⟩ := hw
  refine r_getA C K7 ob7 g2 (by decide) 2 (by decide) w_120 (fun _ z => z) e3 rfl dX5_existingCar_6 ?_
  refine r_iload_n C dX5_existingCar_9 rfl rfl ?_
  obtain ⟨g5, hw⟩ := hw
  refine r_callV (As := [.int p0]) (st := []) C (m_Jx4a65c_get_915e3 hl hw) v_Jx4a65c_get_915e3 w_369 K1 g5 (by decide) ob1 rfl ⟨leb rfl, leb rfl⟩ ⟨leb rfl, leb rfl⟩ rfl (leb rfl) dX5_existingCar_10 (fun _ _ z => z.elim) (kpA (K := fun hK sK => WS E p l e (rmOf 7 1 6 123) s m args below meth c 2 (vx_MQ below (qcP E (puA h post)) (xcP E (pxP h px)) args s 1 6 (bsA E)) hK (1 + 0) (6 + 0) (10 + 3) [(0, .ref this), (1, .int p0)] sK) (fun a4 hv => ?_))
  replace hw := hv
  clear hv
  obtain ⟨g6, hw⟩ := hw
  refine r_cast (r := some a4) (t := 2) C K2 w_94 (fun x z => by cases z; exact g6) (by decide) (fun x => ob2) dX5_existingCar_13 ?_
  exact r_aret (r := some a4) C (Or.inl ⟨_, rfl⟩) dX5_existingCar_16 (by decide) (by decide) ⟨_, rfl, hw, rfl⟩
theorem v_X5_existingCar : MV yX5_existingCar cX5_existingCar 2 (some (.object "TaktLine$Car")) 1 := ⟨w_450, w_449, w_28, w_37, ⟨by decide +kernel, by decide +kernel, by decide +kernel⟩⟩

def wp_X5_fault (h : Hp) (this : Nat) (p0 : Int32) (post : Int32 → Hp → Prop) (px : String → Hp → Prop) : Prop :=
(hT h this = 7 ∧
 wp_X5_existingCar h this p0 (fun a1 =>
 (hT h a1 = 2 ∧
 (∃ x4 : Int32, hI h a1 3 = x4 ∧
 ((x4 = (3 : Int32) →
 px XS h) ∧ (¬ (x4 = (3 : Int32)) →
 (∃ x6 : Int32, hI h a1 8 = x6 ∧
 (∀ J36 : Int32 → Prop, (∀ (t36_0 : Int32), (∀ h7, h7 = sI h a1 8 (1 : Int32) →
 (b01 t36_0 ∧
 post t36_0 h7)) → J36 t36_0) →
 ((x6 = 0 →
 J36 (1 : Int32)) ∧ (¬ (x6 = 0) →
 J36 (0 : Int32)))))))))) (fun X => px X h))
set_option maxHeartbeats 4000000 in
set_option maxRecDepth 100000 in
theorem m_X5_fault {E : Ev} {l : Launch} (hl : l.stackTraces = false) {h : Hp} {this : Nat} {p0 : Int32} {post : Int32 → Hp → Prop} {px : String → Hp → Prop} (hw : wp_X5_fault h this p0 post px) : MT E l yX5_fault cX5_fault 4 (some .boolean) 8 144 2 12 h [.ref this, .int p0] (poI post) (px) := by
  refine MT.of (by decide) hl (Nat.le_of_ble_eq_true rfl) (fun p e s m args below meth c C => ?_)
  unfold wp_X5_fault at hw
  have C : CX E p l s m args meth c cX5_fault 4 "TaktLine" "fault" (some .boolean) [] := C
  show WS E p l e (rmOf 8 2 12 144) s m args below meth c 4 (vx_MQ below (qcP E (poI post)) (xcP E (px)) args s 2 12 (bsA E)) h 0 0 0 [(0, .ref this), (1, .int p0)] []
  refine r_aload_n C dX5_fault_0 rfl rfl ?_
  refine r_iload_n C dX5_fault_1 rfl rfl ?_
  obtain ⟨g2, hw⟩ := hw
  refine r_callV (As := [.int p0]) (st := []) C (m_X5_existingCar hl hw) v_X5_existingCar w_447 K7 g2 (by decide) ob7 rfl ⟨leb rfl, leb rfl⟩ ⟨leb rfl, leb rfl⟩ rfl (leb rfl) dX5_fault_2 (fun X h9 hx => by obtain ⟨hx, rfl⟩ := hx; exact r_out C hx (by decide) (by decide)) (kpA (K := fun hK sK => WS E p l e (rmOf 8 2 12 144) s m args below meth c 4 (vx_MQ below (qcP E (poI post)) (xcP E (px)) args s 2 12 (bsA E)) hK (0 + 1) (0 + 6) (2 + 3) [(0, .ref this), (1, .int p0)] sK) (fun a1 hv => ?_))
  replace hw := hv
  clear hv
  refine r_astore_n C dX5_fault_5 rfl (by decide) [(2, .ref a1)] ⟨rfl, trivial⟩ ?_
  refine r_aload_n C dX5_fault_6 rfl rfl ?_
  obtain ⟨g3, hw⟩ := hw
  obtain ⟨x4, e4, hw⟩ := hw
  refine r_getI C K2 ob2 g3 (by decide) 3 (by decide) w_641 (fun _ z => z) e4 rfl dX5_fault_7 ?_
  refine r_iconst (v := (3 : Int32)) C dX5_fault_10 (by decide) ?_
  refine r_icmp_ne C 24 dX5_fault_11 (by decide) (fun z5 => ?_) (fun z5 => ?_)
  · replace hw := hw.2 z5
    refine r_aload_n C dX5_fault_24 rfl rfl ?_
    obtain ⟨x6, e6, hw⟩ := hw
    refine r_getI C K2 ob2 g3 (by decide) 8 (by decide) w_651 (fun _ z => z) e6 rfl dX5_fault_25 ?_
    replace hw := hw (fun (t36_0 : Int32) => WS E p l e (rmOf 8 2 12 144) s m args below meth c 4 (vx_MQ below (qcP E (poI post)) (xcP E (px)) args s 2 12 (bsA E)) h 1 6 36 [(2, .ref a1)] [.int t36_0]) (by
      intro t36_0 hv
      replace hw := hv
      clear hv
      refine r_istore_n C dX5_fault_36 rfl (by decide) [(2, .ref a1), (3, .int t36_0)] ⟨rfl, rfl, trivial⟩ ?_
      refine r_aload_n C dX5_fault_37 rfl rfl ?_
      refine r_iconst (v := (1 : Int32)) C dX5_fault_38 (by decide) ?_
      obtain ⟨h7, eh7⟩ : ∃ z, z = sI h a1 8 (1 : Int32) := ⟨_, rfl⟩
      replace hw := hw h7 eh7
      refine p_B C K2 ob2 g3 (by decide) 8 (by decide) w_651 (fun _ z => z) rfl (Or.inr rfl) (by decide +kernel) (Nat.le_of_ble_eq_true rfl) rfl dX5_fault_39 eh7 ?_
      refine r_iload_n C dX5_fault_42 rfl rfl ?_
      obtain ⟨y8, hw⟩ := hw
      exact r_zret C y8 dX5_fault_43 (by decide) (by decide) ⟨_, rfl, hw⟩
      )
    refine r_if_ne C 35 dX5_fault_28 (by decide) (fun z9 => ?_) (fun z9 => ?_)
    · replace hw := hw.2 z9
      refine r_iconst (v := (0 : Int32)) C dX5_fault_35 (by decide) ?_
      exact (r_subk hw ⟨rfl, trivial⟩)
    · replace hw := hw.1 z9
      refine r_iconst (v := (1 : Int32)) C dX5_fault_31 (by decide) ?_
      refine r_goto C 36 dX5_fault_32 (by decide) ?_
      exact (r_subk hw ⟨rfl, trivial⟩)
  · replace hw := hw.1 z5
    exact r_throwS C thrS (text := "the car has left") (by decide +kernel) dX5_fault_14 dX5_fault_17 dX5_fault_18 dX5_fault_20 dX5_fault_23 (leb rfl) (leb rfl) (by decide) (by decide) hw
theorem v_X5_fault : MV yX5_fault cX5_fault 4 (some .boolean) 1 := ⟨w_677, w_675, w_676, w_37, ⟨by decide +kernel, by decide +kernel, by decide +kernel⟩⟩

def wp_X5_takts (h : Hp) (this : Nat) (post : Int32 → Prop) : Prop :=
(hT h this = 7 ∧
 (∃ x2 : Int32, hI h this 7 = x2 ∧
 post x2))
set_option maxHeartbeats 4000000 in
set_option maxRecDepth 100000 in
theorem m_X5_takts {E : Ev} {l : Launch} (hl : l.stackTraces = false) {h : Hp} {this : Nat} {post : Int32 → Prop} (hw : wp_X5_takts h this post) : MT E l yX5_takts cX5_takts 1 (some .int) 0 0 0 0 h [.ref this] (puI h post) (pxN) := by
  refine MT.of (by decide) hl (Nat.le_of_ble_eq_true rfl) (fun p e s m args below meth c C => ?_)
  unfold wp_X5_takts at hw
  have C : CX E p l s m args meth c cX5_takts 1 "TaktLine" "takts" (some .int) [] := C
  show WS E p l e (rmOf 0 0 0 0) s m args below meth c 1 (vx_MQ below (qcP E (puI h post)) (xcP E (pxN)) args s 0 0 (bsA E)) h 0 0 0 [(0, .ref this)] []
  refine r_aload_n C dX5_takts_0 rfl rfl ?_
  obtain ⟨g1, hw⟩ := hw
  obtain ⟨x2, e2, hw⟩ := hw
  refine r_getI C K7 ob7 g1 (by decide) 7 (by decide) w_125 (fun _ z => z) e2 rfl dX5_takts_1 ?_
  exact r_iret C dX5_takts_4 (by decide) (by decide) ⟨_, rfl, hw, rfl⟩
theorem v_X5_takts : MV yX5_takts cX5_takts 1 (some .int) 0 := ⟨w_442, w_440, w_441, w_37, ⟨by decide +kernel, by decide +kernel, by decide +kernel⟩⟩

def wp_X5_whereIs (h : Hp) (this : Nat) (p0 : Int32) (post : Int32 → Prop) (px : String → Prop) : Prop :=
(hT h this = 7 ∧
 wp_X5_existingCar h this p0 (fun a1 =>
 (hT h a1 = 2 ∧
 (∃ x4 : Int32, hI h a1 3 = x4 ∧
 post x4))) px)
set_option maxHeartbeats 4000000 in
set_option maxRecDepth 100000 in
theorem m_X5_whereIs {E : Ev} {l : Launch} (hl : l.stackTraces = false) {h : Hp} {this : Nat} {p0 : Int32} {post : Int32 → Prop} {px : String → Prop} (hw : wp_X5_whereIs h this p0 post px) : MT E l yX5_whereIs cX5_whereIs 2 (some .int) 8 144 1 6 h [.ref this, .int p0] (puI h post) (pxP h px) := by
  refine MT.of (by decide) hl (Nat.le_of_ble_eq_true rfl) (fun p e s m args below meth c C => ?_)
  unfold wp_X5_whereIs at hw
  have C : CX E p l s m args meth c cX5_whereIs 2 "TaktLine" "whereIs" (some .int) [] := C
  show WS E p l e (rmOf 8 1 6 144) s m args below meth c 2 (vx_MQ below (qcP E (puI h post)) (xcP E (pxP h px)) args s 1 6 (bsA E)) h 0 0 0 [(0, .ref this), (1, .int p0)] []
  refine r_aload_n C dX5_whereIs_0 rfl rfl ?_
  refine r_iload_n C dX5_whereIs_1 rfl rfl ?_
  obtain ⟨g2, hw⟩ := hw
  refine r_callV (As := [.int p0]) (st := []) C (m_X5_existingCar hl hw) v_X5_existingCar w_447 K7 g2 (by decide) ob7 rfl ⟨leb rfl, leb rfl⟩ ⟨leb rfl, leb rfl⟩ rfl (leb rfl) dX5_whereIs_2 (fun X h9 hx => by obtain ⟨hx, rfl⟩ := hx; exact r_out C ⟨hx, rfl⟩ (by decide) (by decide)) (kpA (K := fun hK sK => WS E p l e (rmOf 8 1 6 144) s m args below meth c 2 (vx_MQ below (qcP E (puI h post)) (xcP E (pxP h px)) args s 1 6 (bsA E)) hK (0 + 1) (0 + 6) (2 + 3) [(0, .ref this), (1, .int p0)] sK) (fun a1 hv => ?_))
  replace hw := hv
  clear hv
  obtain ⟨g3, hw⟩ := hw
  obtain ⟨x4, e4, hw⟩ := hw
  refine r_getI C K2 ob2 g3 (by decide) 3 (by decide) w_641 (fun _ z => z) e4 rfl dX5_whereIs_5 ?_
  exact r_iret C dX5_whereIs_8 (by decide) (by decide) ⟨_, rfl, hw, rfl⟩
theorem v_X5_whereIs : MV yX5_whereIs cX5_whereIs 2 (some .int) 1 := ⟨w_525, w_523, w_524, w_37, ⟨by decide +kernel, by decide +kernel, by decide +kernel⟩⟩

def wp_X5_stationOf (h : Hp) (this : Nat) (p0 : Int32) (post : Int32 → Prop) (px : String → Prop) : Prop :=
(hT h this = 7 ∧
 wp_X5_existingCar h this p0 (fun a1 =>
 (hT h a1 = 2 ∧
 (∃ x4 : Int32, hI h a1 4 = x4 ∧
 post x4))) px)
set_option maxHeartbeats 4000000 in
set_option maxRecDepth 100000 in
theorem m_X5_stationOf {E : Ev} {l : Launch} (hl : l.stackTraces = false) {h : Hp} {this : Nat} {p0 : Int32} {post : Int32 → Prop} {px : String → Prop} (hw : wp_X5_stationOf h this p0 post px) : MT E l yX5_stationOf cX5_stationOf 2 (some .int) 8 144 1 6 h [.ref this, .int p0] (puI h post) (pxP h px) := by
  refine MT.of (by decide) hl (Nat.le_of_ble_eq_true rfl) (fun p e s m args below meth c C => ?_)
  unfold wp_X5_stationOf at hw
  have C : CX E p l s m args meth c cX5_stationOf 2 "TaktLine" "stationOf" (some .int) [] := C
  show WS E p l e (rmOf 8 1 6 144) s m args below meth c 2 (vx_MQ below (qcP E (puI h post)) (xcP E (pxP h px)) args s 1 6 (bsA E)) h 0 0 0 [(0, .ref this), (1, .int p0)] []
  refine r_aload_n C dX5_stationOf_0 rfl rfl ?_
  refine r_iload_n C dX5_stationOf_1 rfl rfl ?_
  obtain ⟨g2, hw⟩ := hw
  refine r_callV (As := [.int p0]) (st := []) C (m_X5_existingCar hl hw) v_X5_existingCar w_447 K7 g2 (by decide) ob7 rfl ⟨leb rfl, leb rfl⟩ ⟨leb rfl, leb rfl⟩ rfl (leb rfl) dX5_stationOf_2 (fun X h9 hx => by obtain ⟨hx, rfl⟩ := hx; exact r_out C ⟨hx, rfl⟩ (by decide) (by decide)) (kpA (K := fun hK sK => WS E p l e (rmOf 8 1 6 144) s m args below meth c 2 (vx_MQ below (qcP E (puI h post)) (xcP E (pxP h px)) args s 1 6 (bsA E)) hK (0 + 1) (0 + 6) (2 + 3) [(0, .ref this), (1, .int p0)] sK) (fun a1 hv => ?_))
  replace hw := hv
  clear hv
  obtain ⟨g3, hw⟩ := hw
  obtain ⟨x4, e4, hw⟩ := hw
  refine r_getI C K2 ob2 g3 (by decide) 4 (by decide) w_643 (fun _ z => z) e4 rfl dX5_stationOf_5 ?_
  exact r_iret C dX5_stationOf_8 (by decide) (by decide) ⟨_, rfl, hw, rfl⟩
theorem v_X5_stationOf : MV yX5_stationOf cX5_stationOf 2 (some .int) 1 := ⟨w_727, w_725, w_726, w_37, ⟨by decide +kernel, by decide +kernel, by decide +kernel⟩⟩

def wp_X5_carAt (h : Hp) (this : Nat) (p0 : Int32) (post : Int32 → Prop) (px : String → Prop) : Prop :=
wp_X5_isStation h p0 (fun x1 =>
 ((x1 = 0 →
 px XA) ∧ (¬ (x1 = 0) →
 (hT h this = 7 ∧
 (∃ a4 : Nat, hR h this 6 = some a4 ∧
 (hT h a4 = 25 ∧
 (∃ j6 : Nat, p0 = nI j6 ∧ j6 < 2147483648 ∧ j6 < hL h a4 ∧
 (∃ r7 : Option Nat, hR h a4 j6 = r7 ∧
 (∀ J36 : Int32 → Prop, (∀ (t36_0 : Int32), (post t36_0) → J36 t36_0) →
 ((r7 = none →
 J36 (-1 : Int32)) ∧ (∀ x8, r7 = some x8 →
 (hT h x8 = 2 ∧
 (∃ x10 : Int32, hI h x8 0 = x10 ∧
 J36 x10)))))))))))))
set_option maxHeartbeats 4000000 in
set_option maxRecDepth 100000 in
theorem m_X5_carAt {E : Ev} {l : Launch} (hl : l.stackTraces = false) {h : Hp} {this : Nat} {p0 : Int32} {post : Int32 → Prop} {px : String → Prop} (hw : wp_X5_carAt h this p0 post px) : MT E l yX5_carAt cX5_carAt 3 (some .int) 6 102 1 6 h [.ref this, .int p0] (puI h post) (pxP h px) := by
  refine MT.of (by decide) hl (Nat.le_of_ble_eq_true rfl) (fun p e s m args below meth c C => ?_)
  unfold wp_X5_carAt at hw
  have C : CX E p l s m args meth c cX5_carAt 3 "TaktLine" "carAt" (some .int) [] := C
  show WS E p l e (rmOf 6 1 6 102) s m args below meth c 3 (vx_MQ below (qcP E (puI h post)) (xcP E (pxP h px)) args s 1 6 (bsA E)) h 0 0 0 [(0, .ref this), (1, .int p0)] []
  refine r_iload_n C dX5_carAt_0 rfl rfl ?_
  refine r_callS (As := [.int p0]) (st := []) C (m_X5_isStation hl hw) v_X5_isStation w_256 rfl ⟨leb rfl, leb rfl⟩ ⟨leb rfl, leb rfl⟩ rfl (leb rfl) dX5_carAt_1 (fun _ _ z => z.elim) (kpI (K := fun hK sK => WS E p l e (rmOf 6 1 6 102) s m args below meth c 3 (vx_MQ below (qcP E (puI h post)) (xcP E (pxP h px)) args s 1 6 (bsA E)) hK (0 + 0) (0 + 0) (1 + 3) [(0, .ref this), (1, .int p0)] sK) (fun x1 hv => ?_))
  replace hw := hv
  clear hv
  refine r_if_ne C 17 dX5_carAt_4 (by decide) (fun z2 => ?_) (fun z2 => ?_)
  · replace hw := hw.2 z2
    refine r_aload_n C dX5_carAt_17 rfl rfl ?_
    obtain ⟨g3, hw⟩ := hw
    obtain ⟨a4, e4, hw⟩ := hw
    refine r_getA C K7 ob7 g3 (by decide) 6 (by decide) w_124 (fun _ z => z) e4 rfl dX5_carAt_18 ?_
    refine r_iload_n C dX5_carAt_21 rfl rfl ?_
    obtain ⟨g5, hw⟩ := hw
    obtain ⟨j6, f6, l6, k6, hw⟩ := hw
    obtain ⟨r7, e7, hw⟩ := hw
    refine a_R C ar25 g5 (by decide) (t0 := 5) rfl f6 l6 k6 e7 dX5_carAt_22 ?_
    refine r_astoreq_n C dX5_carAt_23 rfl (by decide) [(2, va_rf r7)] ⟨rfl, trivial⟩ ?_
    refine r_aloadq_n C dX5_carAt_24 rfl rfl ?_
    replace hw := hw (fun (t36_0 : Int32) => WS E p l e (rmOf 6 1 6 102) s m args below meth c 3 (vx_MQ below (qcP E (puI h post)) (xcP E (pxP h px)) args s 1 6 (bsA E)) h 0 0 36 [] [.int t36_0]) (by
      intro t36_0 hv
      replace hw := hv
      clear hv
      exact r_iret C dX5_carAt_36 (by decide) (by decide) ⟨_, rfl, hw, rfl⟩
      )
    refine r_ifnonnull C 32 dX5_carAt_25 (by decide) (fun x8 z8 => ?_) (fun z8 => ?_)
    · replace hw := hw.2 x8 z8
      subst z8
      refine r_aload_n C dX5_carAt_32 rfl rfl ?_
      obtain ⟨g9, hw⟩ := hw
      obtain ⟨x10, e10, hw⟩ := hw
      refine r_getI C K2 ob2 g9 (by decide) 0 (by decide) w_635 (fun _ z => z) e10 rfl dX5_carAt_33 ?_
      exact (r_subk hw trivial)
    · replace hw := hw.1 z8
      subst z8
      refine r_iconst (v := (-1 : Int32)) C dX5_carAt_28 (by decide) ?_
      refine r_goto C 36 dX5_carAt_29 (by decide) ?_
      exact (r_subk hw trivial)
  · replace hw := hw.1 z2
    exact r_throwS C thrA (text := "station is out of range") (by decide +kernel) dX5_carAt_7 dX5_carAt_10 dX5_carAt_11 dX5_carAt_13 dX5_carAt_16 (leb rfl) (leb rfl) (by decide) (by decide) ⟨hw, rfl⟩
theorem v_X5_carAt : MV yX5_carAt cX5_carAt 3 (some .int) 1 := ⟨w_536, w_534, w_535, w_37, ⟨by decide +kernel, by decide +kernel, by decide +kernel⟩⟩

def wp_X5_neededKinds (h : Hp) (this : Nat) (p0 : Nat) (post : Int32 → Prop) : Prop :=
(∀ J4 : Int32 → Int32 → Prop, (∀ (v4_2 : Int32) (v4_3 : Int32), (((10 : Int32) ≤ v4_3 →
 post v4_2) ∧ (¬ ((10 : Int32) ≤ v4_3) →
 (hT h this = 7 ∧
 (∃ a3 : Nat, hR h this 0 = some a3 ∧
 (hT h a3 = 23 ∧
 (∃ j5 : Nat, v4_3 = nI j5 ∧ j5 < 2147483648 ∧ j5 < hL h a3 ∧
 (∃ a6 : Nat, hR h a3 j5 = some a6 ∧
 (hT h p0 = 2 ∧
 (∃ x8 : Int32, hI h p0 1 = x8 ∧
 (hT h a6 = 4 ∧
 wp_X2_isNeededWith h a6 x8 (fun x9 =>
 (∀ J32 : Int32 → Prop, (∀ (v32_2 : Int32), (J4 v32_2 (v4_3 + (1 : Int32))) → J32 v32_2) →
 ((x9 = 0 →
 J32 v4_2) ∧ (¬ (x9 = 0) →
 J32 (v4_2 ||| ((1 : Int32) <<< (v4_3 &&& 31))))))))))))))))) → J4 v4_2 v4_3) →
 J4 (0 : Int32) (0 : Int32))
set_option maxHeartbeats 4000000 in
set_option maxRecDepth 100000 in
theorem m_X5_neededKinds {E : Ev} {l : Launch} (hl : l.stackTraces = false) {h : Hp} {this : Nat} {p0 : Nat} {post : Int32 → Prop} (hw : wp_X5_neededKinds h this p0 post) : MT E l yX5_neededKinds cX5_neededKinds 4 (some .int) 1 21 0 0 h [.ref this, .ref p0] (puI h post) (pxN) := by
  refine MT.of (by decide) hl (Nat.le_of_ble_eq_true rfl) (fun p e s m args below meth c C => ?_)
  unfold wp_X5_neededKinds at hw
  have C : CX E p l s m args meth c cX5_neededKinds 4 "TaktLine" "neededKinds" (some .int) [] := C
  show WS E p l e (rmOf 1 0 0 21) s m args below meth c 4 (vx_MQ below (qcP E (puI h post)) (xcP E (pxN)) args s 0 0 (bsA E)) h 0 0 0 [(0, .ref this), (1, .ref p0)] []
  refine r_iconst (v := (0 : Int32)) C dX5_neededKinds_0 (by decide) ?_
  refine r_istore_n C dX5_neededKinds_1 rfl (by decide) [(0, .ref this), (1, .ref p0), (2, .int (0 : Int32))] ⟨rfl, rfl, rfl, trivial⟩ ?_
  refine r_iconst (v := (0 : Int32)) C dX5_neededKinds_2 (by decide) ?_
  refine r_istore_n C dX5_neededKinds_3 rfl (by decide) [(0, .ref this), (1, .ref p0), (2, .int (0 : Int32)), (3, .int (0 : Int32))] ⟨rfl, rfl, rfl, rfl, trivial⟩ ?_
  replace hw := hw (fun (v4_2 : Int32) (v4_3 : Int32) => WS E p l e (rmOf 1 0 0 21) s m args below meth c 4 (vx_MQ below (qcP E (puI h post)) (xcP E (pxN)) args s 0 0 (bsA E)) h 0 0 4 [(0, .ref this), (1, .ref p0), (2, .int v4_2), (3, .int v4_3)] []) (by
    intro v4_2 v4_3 hv
    replace hw := hv
    clear hv
    refine r_iload_n C dX5_neededKinds_4 rfl rfl ?_
    refine r_bipush (v := (10 : Int32)) C dX5_neededKinds_5 (by decide) ?_
    refine r_icmp_ge C 38 dX5_neededKinds_7 (by decide) (fun z1 => ?_) (fun z1 => ?_)
    · replace hw := hw.1 z1
      refine r_iload_n C dX5_neededKinds_38 rfl rfl ?_
      exact r_iret C dX5_neededKinds_39 (by decide) (by decide) ⟨_, rfl, hw, rfl⟩
    · replace hw := hw.2 z1
      refine r_aload_n C dX5_neededKinds_10 rfl rfl ?_
      obtain ⟨g2, hw⟩ := hw
      obtain ⟨a3, e3, hw⟩ := hw
      refine r_getA C K7 ob7 g2 (by decide) 0 (by decide) w_118 (fun _ z => z) e3 rfl dX5_neededKinds_11 ?_
      refine r_iload_n C dX5_neededKinds_14 rfl rfl ?_
      obtain ⟨g4, hw⟩ := hw
      obtain ⟨j5, f5, l5, k5, hw⟩ := hw
      obtain ⟨a6, e6, hw⟩ := hw
      refine a_A C ar23 g4 (by decide) (t0 := 3) rfl f5 l5 k5 e6 dX5_neededKinds_15 ?_
      refine r_aload_n C dX5_neededKinds_16 rfl rfl ?_
      obtain ⟨g7, hw⟩ := hw
      obtain ⟨x8, e8, hw⟩ := hw
      refine r_getI C K2 ob2 g7 (by decide) 1 (by decide) w_637 (fun _ z => z) e8 rfl dX5_neededKinds_17 ?_
      obtain ⟨g10, hw⟩ := hw
      refine r_callV (As := [.int x8]) (st := []) C (m_X2_isNeededWith hl hw) v_X2_isNeededWith w_237 K4 g10 (by decide) ob4 rfl ⟨leb rfl, leb rfl⟩ ⟨leb rfl, leb rfl⟩ rfl (leb rfl) dX5_neededKinds_20 (fun _ _ z => z.elim) (kpI (K := fun hK sK => WS E p l e (rmOf 1 0 0 21) s m args below meth c 4 (vx_MQ below (qcP E (puI h post)) (xcP E (pxN)) args s 0 0 (bsA E)) hK (0 + 0) (0 + 0) (20 + 3) [(0, .ref this), (1, .ref p0), (2, .int v4_2), (3, .int v4_3)] sK) (fun x9 hv => ?_))
      replace hw := hv
      clear hv
      replace hw := hw (fun (v32_2 : Int32) => WS E p l e (rmOf 1 0 0 21) s m args below meth c 4 (vx_MQ below (qcP E (puI h post)) (xcP E (pxN)) args s 0 0 (bsA E)) h 0 0 32 [(0, .ref this), (1, .ref p0), (2, .int v32_2), (3, .int v4_3)] []) (by
        intro v32_2 hv
        replace hw := hv
        clear hv
        refine r_iinc C (v4_3 + (1 : Int32)) dX5_neededKinds_32 rfl rfl (by decide) [(0, .ref this), (1, .ref p0), (2, .int v32_2), (3, .int (v4_3 + (1 : Int32)))] ⟨rfl, rfl, rfl, rfl, trivial⟩ ?_
        refine r_goto C 4 dX5_neededKinds_35 (by decide) ?_
        exact (r_subk hw ⟨rfl, rfl, rfl, rfl, trivial⟩)
        )
      refine r_if_eq C 32 dX5_neededKinds_23 (by decide) (fun z11 => ?_) (fun z11 => ?_)
      · replace hw := hw.1 z11
        exact (r_subk hw ⟨rfl, rfl, rfl, rfl, trivial⟩)
      · replace hw := hw.2 z11
        refine r_iload_n C dX5_neededKinds_26 rfl rfl ?_
        refine r_iconst (v := (1 : Int32)) C dX5_neededKinds_27 (by decide) ?_
        refine r_iload_n C dX5_neededKinds_28 rfl rfl ?_
        refine r_ishl C dX5_neededKinds_29 ?_
        refine r_ior C dX5_neededKinds_30 ?_
        refine r_istore_n C dX5_neededKinds_31 rfl (by decide) [(0, .ref this), (1, .ref p0), (2, .int (v4_2 ||| ((1 : Int32) <<< (v4_3 &&& 31)))), (3, .int v4_3)] ⟨rfl, rfl, rfl, rfl, trivial⟩ ?_
        exact (r_subk hw ⟨rfl, rfl, rfl, rfl, trivial⟩)
    )
  exact (r_subk hw ⟨rfl, rfl, rfl, rfl, trivial⟩)
theorem v_X5_neededKinds : MV yX5_neededKinds cX5_neededKinds 4 (some .int) 1 := ⟨w_764, w_763, w_35, w_37, ⟨by decide +kernel, by decide +kernel, by decide +kernel⟩⟩

def wp_X5_needs (h : Hp) (this : Nat) (p0 : Int32) (post : Int32 → Prop) (px : String → Prop) : Prop :=
(hT h this = 7 ∧
 wp_X5_existingCar h this p0 (fun a1 =>
 wp_X5_neededKinds h this a1 (fun x3 =>
 post x3)) px)
set_option maxHeartbeats 4000000 in
set_option maxRecDepth 100000 in
theorem m_X5_needs {E : Ev} {l : Launch} (hl : l.stackTraces = false) {h : Hp} {this : Nat} {p0 : Int32} {post : Int32 → Prop} {px : String → Prop} (hw : wp_X5_needs h this p0 post px) : MT E l yX5_needs cX5_needs 2 (some .int) 8 144 1 6 h [.ref this, .int p0] (puI h post) (pxP h px) := by
  refine MT.of (by decide) hl (Nat.le_of_ble_eq_true rfl) (fun p e s m args below meth c C => ?_)
  unfold wp_X5_needs at hw
  have C : CX E p l s m args meth c cX5_needs 2 "TaktLine" "needs" (some .int) [] := C
  show WS E p l e (rmOf 8 1 6 144) s m args below meth c 2 (vx_MQ below (qcP E (puI h post)) (xcP E (pxP h px)) args s 1 6 (bsA E)) h 0 0 0 [(0, .ref this), (1, .int p0)] []
  refine r_aload_n C dX5_needs_0 rfl rfl ?_
  refine r_aload_n C dX5_needs_1 rfl rfl ?_
  refine r_iload_n C dX5_needs_2 rfl rfl ?_
  obtain ⟨g2, hw⟩ := hw
  refine r_callV (As := [.int p0]) (st := [.ref this]) C (m_X5_existingCar hl hw) v_X5_existingCar w_447 K7 g2 (by decide) ob7 rfl ⟨leb rfl, leb rfl⟩ ⟨leb rfl, leb rfl⟩ rfl (leb rfl) dX5_needs_3 (fun X h9 hx => by obtain ⟨hx, rfl⟩ := hx; exact r_out C ⟨hx, rfl⟩ (by decide) (by decide)) (kpA (K := fun hK sK => WS E p l e (rmOf 8 1 6 144) s m args below meth c 2 (vx_MQ below (qcP E (puI h post)) (xcP E (pxP h px)) args s 1 6 (bsA E)) hK (0 + 1) (0 + 6) (3 + 3) [(0, .ref this), (1, .int p0)] sK) (fun a1 hv => ?_))
  replace hw := hv
  clear hv
  refine r_callV (As := [.ref a1]) (st := []) C (m_X5_neededKinds hl hw) v_X5_neededKinds w_761 K7 g2 (by decide) ob7 rfl ⟨leb rfl, leb rfl⟩ ⟨leb rfl, leb rfl⟩ rfl (leb rfl) dX5_needs_6 (fun _ _ z => z.elim) (kpI (K := fun hK sK => WS E p l e (rmOf 8 1 6 144) s m args below meth c 2 (vx_MQ below (qcP E (puI h post)) (xcP E (pxP h px)) args s 1 6 (bsA E)) hK (1 + 0) (6 + 0) (6 + 3) [(0, .ref this), (1, .int p0)] sK) (fun x3 hv => ?_))
  replace hw := hv
  clear hv
  exact r_iret C dX5_needs_9 (by decide) (by decide) ⟨_, rfl, hw, rfl⟩
theorem v_X5_needs : MV yX5_needs cX5_needs 2 (some .int) 1 := ⟨w_760, w_758, w_759, w_37, ⟨by decide +kernel, by decide +kernel, by decide +kernel⟩⟩

def wp_X5_lacks (h : Hp) (this : Nat) (p0 : Int32) (post : Int32 → Prop) (px : String → Prop) : Prop :=
(hT h this = 7 ∧
 wp_X5_existingCar h this p0 (fun a1 =>
 wp_X5_lackingKinds h this a1 (fun x3 =>
 post x3)) px)
set_option maxHeartbeats 4000000 in
set_option maxRecDepth 100000 in
theorem m_X5_lacks {E : Ev} {l : Launch} (hl : l.stackTraces = false) {h : Hp} {this : Nat} {p0 : Int32} {post : Int32 → Prop} {px : String → Prop} (hw : wp_X5_lacks h this p0 post px) : MT E l yX5_lacks cX5_lacks 2 (some .int) 8 144 1 6 h [.ref this, .int p0] (puI h post) (pxP h px) := by
  refine MT.of (by decide) hl (Nat.le_of_ble_eq_true rfl) (fun p e s m args below meth c C => ?_)
  unfold wp_X5_lacks at hw
  have C : CX E p l s m args meth c cX5_lacks 2 "TaktLine" "lacks" (some .int) [] := C
  show WS E p l e (rmOf 8 1 6 144) s m args below meth c 2 (vx_MQ below (qcP E (puI h post)) (xcP E (pxP h px)) args s 1 6 (bsA E)) h 0 0 0 [(0, .ref this), (1, .int p0)] []
  refine r_aload_n C dX5_lacks_0 rfl rfl ?_
  refine r_aload_n C dX5_lacks_1 rfl rfl ?_
  refine r_iload_n C dX5_lacks_2 rfl rfl ?_
  obtain ⟨g2, hw⟩ := hw
  refine r_callV (As := [.int p0]) (st := [.ref this]) C (m_X5_existingCar hl hw) v_X5_existingCar w_447 K7 g2 (by decide) ob7 rfl ⟨leb rfl, leb rfl⟩ ⟨leb rfl, leb rfl⟩ rfl (leb rfl) dX5_lacks_3 (fun X h9 hx => by obtain ⟨hx, rfl⟩ := hx; exact r_out C ⟨hx, rfl⟩ (by decide) (by decide)) (kpA (K := fun hK sK => WS E p l e (rmOf 8 1 6 144) s m args below meth c 2 (vx_MQ below (qcP E (puI h post)) (xcP E (pxP h px)) args s 1 6 (bsA E)) hK (0 + 1) (0 + 6) (3 + 3) [(0, .ref this), (1, .int p0)] sK) (fun a1 hv => ?_))
  replace hw := hv
  clear hv
  refine r_callV (As := [.ref a1]) (st := []) C (m_X5_lackingKinds hl hw) v_X5_lackingKinds w_321 K7 g2 (by decide) ob7 rfl ⟨leb rfl, leb rfl⟩ ⟨leb rfl, leb rfl⟩ rfl (leb rfl) dX5_lacks_6 (fun _ _ z => z.elim) (kpI (K := fun hK sK => WS E p l e (rmOf 8 1 6 144) s m args below meth c 2 (vx_MQ below (qcP E (puI h post)) (xcP E (pxP h px)) args s 1 6 (bsA E)) hK (1 + 0) (6 + 0) (6 + 3) [(0, .ref this), (1, .int p0)] sK) (fun x3 hv => ?_))
  replace hw := hv
  clear hv
  exact r_iret C dX5_lacks_9 (by decide) (by decide) ⟨_, rfl, hw, rfl⟩
theorem v_X5_lacks : MV yX5_lacks cX5_lacks 2 (some .int) 1 := ⟨w_731, w_729, w_730, w_37, ⟨by decide +kernel, by decide +kernel, by decide +kernel⟩⟩

def wp_X5_lotIn (h : Hp) (this : Nat) (p0 : Int32) (p1 : Int32) (post : Int32 → Prop) (px : String → Prop) : Prop :=
(hT h this = 7 ∧
 wp_X5_existingCar h this p0 (fun a1 =>
 wp_X5_checkKind h p1 ((hT h a1 = 2 ∧
 (∃ a5 : Nat, hR h a1 2 = some a5 ∧
 (hT h a5 = 24 ∧
 (∃ j7 : Nat, p1 = nI j7 ∧ j7 < 2147483648 ∧ j7 < hL h a5 ∧
 (∃ r8 : Option Nat, hR h a5 j7 = r8 ∧
 (∀ J32 : Int32 → Prop, (∀ (t32_0 : Int32), (post t32_0) → J32 t32_0) →
 ((r8 = none →
 J32 (-1 : Int32)) ∧ (∀ x9, r8 = some x9 →
 (hT h x9 = 5 ∧
 (∃ x11 : Int32, hI h x9 0 = x11 ∧
 J32 x11))))))))))) px) px)
set_option maxHeartbeats 4000000 in
set_option maxRecDepth 100000 in
theorem m_X5_lotIn {E : Ev} {l : Launch} (hl : l.stackTraces = false) {h : Hp} {this : Nat} {p0 : Int32} {p1 : Int32} {post : Int32 → Prop} {px : String → Prop} (hw : wp_X5_lotIn h this p0 p1 post px) : MT E l yX5_lotIn cX5_lotIn 5 (some .int) 8 144 2 12 h [.ref this, .int p0, .int p1] (puI h post) (pxP h px) := by
  refine MT.of (by decide) hl (Nat.le_of_ble_eq_true rfl) (fun p e s m args below meth c C => ?_)
  unfold wp_X5_lotIn at hw
  have C : CX E p l s m args meth c cX5_lotIn 5 "TaktLine" "lotIn" (some .int) [] := C
  show WS E p l e (rmOf 8 2 12 144) s m args below meth c 5 (vx_MQ below (qcP E (puI h post)) (xcP E (pxP h px)) args s 2 12 (bsA E)) h 0 0 0 [(0, .ref this), (1, .int p0), (2, .int p1)] []
  refine r_aload_n C dX5_lotIn_0 rfl rfl ?_
  refine r_iload_n C dX5_lotIn_1 rfl rfl ?_
  obtain ⟨g2, hw⟩ := hw
  refine r_callV (As := [.int p0]) (st := []) C (m_X5_existingCar hl hw) v_X5_existingCar w_447 K7 g2 (by decide) ob7 rfl ⟨leb rfl, leb rfl⟩ ⟨leb rfl, leb rfl⟩ rfl (leb rfl) dX5_lotIn_2 (fun X h9 hx => by obtain ⟨hx, rfl⟩ := hx; exact r_out C ⟨hx, rfl⟩ (by decide) (by decide)) (kpA (K := fun hK sK => WS E p l e (rmOf 8 2 12 144) s m args below meth c 5 (vx_MQ below (qcP E (puI h post)) (xcP E (pxP h px)) args s 2 12 (bsA E)) hK (0 + 1) (0 + 6) (2 + 3) [(0, .ref this), (1, .int p0), (2, .int p1)] sK) (fun a1 hv => ?_))
  replace hw := hv
  clear hv
  refine r_astore_n C dX5_lotIn_5 rfl (by decide) [(2, .int p1), (3, .ref a1)] ⟨rfl, rfl, trivial⟩ ?_
  refine r_iload_n C dX5_lotIn_6 rfl rfl ?_
  refine r_callS (As := [.int p1]) (st := []) C (m_X5_checkKind hl hw) v_X5_checkKind w_551 rfl ⟨leb rfl, leb rfl⟩ ⟨leb rfl, leb rfl⟩ rfl (leb rfl) dX5_lotIn_7 (fun X h9 hx => by obtain ⟨hx, rfl⟩ := hx; exact r_out C ⟨hx, rfl⟩ (by decide) (by decide)) (kpV (K := fun hK sK => WS E p l e (rmOf 8 2 12 144) s m args below meth c 5 (vx_MQ below (qcP E (puI h post)) (xcP E (pxP h px)) args s 2 12 (bsA E)) hK (1 + 1) (6 + 6) (7 + 3) [(2, .int p1), (3, .ref a1)] sK) (fun hv => ?_))
  replace hw := hv
  clear hv
  refine r_aload_n C dX5_lotIn_10 rfl rfl ?_
  obtain ⟨g4, hw⟩ := hw
  obtain ⟨a5, e5, hw⟩ := hw
  refine r_getA C K2 ob2 g4 (by decide) 2 (by decide) w_639 (fun _ z => z) e5 rfl dX5_lotIn_11 ?_
  refine r_iload_n C dX5_lotIn_14 rfl rfl ?_
  obtain ⟨g6, hw⟩ := hw
  obtain ⟨j7, f7, l7, k7, hw⟩ := hw
  obtain ⟨r8, e8, hw⟩ := hw
  refine a_R C ar24 g6 (by decide) (t0 := 4) rfl f7 l7 k7 e8 dX5_lotIn_15 ?_
  refine r_astoreq C dX5_lotIn_16 (by decide) [(4, va_rf r8)] ⟨rfl, trivial⟩ ?_
  refine r_aloadq C dX5_lotIn_18 rfl ?_
  replace hw := hw (fun (t32_0 : Int32) => WS E p l e (rmOf 8 2 12 144) s m args below meth c 5 (vx_MQ below (qcP E (puI h post)) (xcP E (pxP h px)) args s 2 12 (bsA E)) h 2 12 32 [] [.int t32_0]) (by
    intro t32_0 hv
    replace hw := hv
    clear hv
    exact r_iret C dX5_lotIn_32 (by decide) (by decide) ⟨_, rfl, hw, rfl⟩
    )
  refine r_ifnonnull C 27 dX5_lotIn_20 (by decide) (fun x9 z9 => ?_) (fun z9 => ?_)
  · replace hw := hw.2 x9 z9
    subst z9
    refine r_aload C dX5_lotIn_27 rfl ?_
    obtain ⟨g10, hw⟩ := hw
    obtain ⟨x11, e11, hw⟩ := hw
    refine r_getI C K5 ob5 g10 (by decide) 0 (by decide) w_580 (fun _ z => z) e11 rfl dX5_lotIn_29 ?_
    exact (r_subk hw trivial)
  · replace hw := hw.1 z9
    subst z9
    refine r_iconst (v := (-1 : Int32)) C dX5_lotIn_23 (by decide) ?_
    refine r_goto C 32 dX5_lotIn_24 (by decide) ?_
    exact (r_subk hw trivial)
theorem v_X5_lotIn : MV yX5_lotIn cX5_lotIn 5 (some .int) 2 := ⟨w_768, w_766, w_767, w_37, ⟨by decide +kernel, by decide +kernel, by decide +kernel⟩⟩

def wp_X5_lotByPicks (h : Hp) (this : Nat) (p0 : Int32) (p1 : Int32) (post : Int32 → Prop) (px : String → Prop) : Prop :=
(hT h this = 7 ∧
 wp_X5_checkCar h this p0 (wp_X5_checkKind h p1 ((∀ J14 : Int32 → Int32 → Prop, (∀ (v14_3 : Int32) (v14_4 : Int32), (∃ a4 : Nat, hR h this 5 = some a4 ∧
 (hT h a4 = 1 ∧
 wp_Jx4a65c_size_8abf5 h a4 (fun x5 =>
 ((x5 ≤ v14_4 →
 post v14_3) ∧ (¬ (x5 ≤ v14_4) →
 (∃ a8 : Nat, hR h this 5 = some a8 ∧
 (hT h a8 = 1 ∧
 wp_Jx4a65c_get_915e3 h a8 v14_4 (fun a9 =>
 (hT h a9 = 6 ∧
 (∃ x12 : Int32, hI h a9 0 = x12 ∧
 (∀ J64 : Int32 → Prop, (∀ (v64_3 : Int32), (J14 v64_3 (v14_4 + (1 : Int32))) → J64 v64_3) →
 ((x12 = p0 →
 (∃ x14 : Int32, hI h a9 1 = x14 ∧
 ((x14 = p1 →
 (∃ x16 : Int32, hI h a9 2 = x16 ∧
 J64 x16)) ∧ (¬ (x14 = p1) →
 J64 v14_3)))) ∧ (¬ (x12 = p0) →
 J64 v14_3))))))))))))) → J14 v14_3 v14_4) →
 J14 (-1 : Int32) (0 : Int32))) px) px)
set_option maxHeartbeats 4000000 in
set_option maxRecDepth 100000 in
theorem m_X5_lotByPicks {E : Ev} {l : Launch} (hl : l.stackTraces = false) {h : Hp} {this : Nat} {p0 : Int32} {p1 : Int32} {post : Int32 → Prop} {px : String → Prop} (hw : wp_X5_lotByPicks h this p0 p1 post px) : MT E l yX5_lotByPicks cX5_lotByPicks 6 (some .int) 7 123 2 12 h [.ref this, .int p0, .int p1] (puI h post) (pxP h px) := by
  refine MT.of (by decide) hl (Nat.le_of_ble_eq_true rfl) (fun p e s m args below meth c C => ?_)
  unfold wp_X5_lotByPicks at hw
  have C : CX E p l s m args meth c cX5_lotByPicks 6 "TaktLine" "lotByPicks" (some .int) [] := C
  show WS E p l e (rmOf 7 2 12 123) s m args below meth c 6 (vx_MQ below (qcP E (puI h post)) (xcP E (pxP h px)) args s 2 12 (bsA E)) h 0 0 0 [(0, .ref this), (1, .int p0), (2, .int p1)] []
  refine r_aload_n C dX5_lotByPicks_0 rfl rfl ?_
  refine r_iload_n C dX5_lotByPicks_1 rfl rfl ?_
  obtain ⟨g2, hw⟩ := hw
  refine r_callV (As := [.int p0]) (st := []) C (m_X5_checkCar hl hw) v_X5_checkCar w_451 K7 g2 (by decide) ob7 rfl ⟨leb rfl, leb rfl⟩ ⟨leb rfl, leb rfl⟩ rfl (leb rfl) dX5_lotByPicks_2 (fun X h9 hx => by obtain ⟨hx, rfl⟩ := hx; exact r_out C ⟨hx, rfl⟩ (by decide) (by decide)) (kpV (K := fun hK sK => WS E p l e (rmOf 7 2 12 123) s m args below meth c 6 (vx_MQ below (qcP E (puI h post)) (xcP E (pxP h px)) args s 2 12 (bsA E)) hK (0 + 1) (0 + 6) (2 + 3) [(0, .ref this), (1, .int p0), (2, .int p1)] sK) (fun hv => ?_))
  replace hw := hv
  clear hv
  refine r_iload_n C dX5_lotByPicks_5 rfl rfl ?_
  refine r_callS (As := [.int p1]) (st := []) C (m_X5_checkKind hl hw) v_X5_checkKind w_551 rfl ⟨leb rfl, leb rfl⟩ ⟨leb rfl, leb rfl⟩ rfl (leb rfl) dX5_lotByPicks_6 (fun X h9 hx => by obtain ⟨hx, rfl⟩ := hx; exact r_out C ⟨hx, rfl⟩ (by decide) (by decide)) (kpV (K := fun hK sK => WS E p l e (rmOf 7 2 12 123) s m args below meth c 6 (vx_MQ below (qcP E (puI h post)) (xcP E (pxP h px)) args s 2 12 (bsA E)) hK (1 + 1) (6 + 6) (6 + 3) [(0, .ref this), (1, .int p0), (2, .int p1)] sK) (fun hv => ?_))
  replace hw := hv
  clear hv
  refine r_iconst (v := (-1 : Int32)) C dX5_lotByPicks_9 (by decide) ?_
  refine r_istore_n C dX5_lotByPicks_10 rfl (by decide) [(0, .ref this), (1, .int p0), (2, .int p1), (3, .int (-1 : Int32))] ⟨rfl, rfl, rfl, rfl, trivial⟩ ?_
  refine r_iconst (v := (0 : Int32)) C dX5_lotByPicks_11 (by decide) ?_
  refine r_istore C dX5_lotByPicks_12 (by decide) [(0, .ref this), (1, .int p0), (2, .int p1), (3, .int (-1 : Int32)), (4, .int (0 : Int32))] ⟨rfl, rfl, rfl, rfl, rfl, trivial⟩ ?_
  replace hw := hw (fun (v14_3 : Int32) (v14_4 : Int32) => WS E p l e (rmOf 7 2 12 123) s m args below meth c 6 (vx_MQ below (qcP E (puI h post)) (xcP E (pxP h px)) args s 2 12 (bsA E)) h 2 12 14 [(0, .ref this), (1, .int p0), (2, .int p1), (3, .int v14_3), (4, .int v14_4)] []) (by
    intro v14_3 v14_4 hv
    replace hw := hv
    clear hv
    refine r_iload C dX5_lotByPicks_14 rfl ?_
    refine r_aload_n C dX5_lotByPicks_16 rfl rfl ?_
    obtain ⟨a4, e4, hw⟩ := hw
    refine r_getA C K7 ob7 g2 (by decide) 5 (by decide) w_123 (fun _ z => z) e4 rfl dX5_lotByPicks_17 ?_
    obtain ⟨g6, hw⟩ := hw
    refine r_callV (As := []) (st := [.int v14_4]) C (m_Jx4a65c_size_8abf5 hl hw) v_Jx4a65c_size_8abf5 w_365 K1 g6 (by decide) ob1 rfl ⟨leb rfl, leb rfl⟩ ⟨leb rfl, leb rfl⟩ rfl (leb rfl) dX5_lotByPicks_20 (fun _ _ z => z.elim) (kpI (K := fun hK sK => WS E p l e (rmOf 7 2 12 123) s m args below meth c 6 (vx_MQ below (qcP E (puI h post)) (xcP E (pxP h px)) args s 2 12 (bsA E)) hK (2 + 0) (12 + 0) (20 + 3) [(0, .ref this), (1, .int p0), (2, .int p1), (3, .int v14_3), (4, .int v14_4)] sK) (fun x5 hv => ?_))
    replace hw := hv
    clear hv
    refine r_icmp_ge C 70 dX5_lotByPicks_23 (by decide) (fun z7 => ?_) (fun z7 => ?_)
    · replace hw := hw.1 z7
      refine r_iload_n C dX5_lotByPicks_70 rfl rfl ?_
      exact r_iret C dX5_lotByPicks_71 (by decide) (by decide) ⟨_, rfl, hw, rfl⟩
    · replace hw := hw.2 z7
      refine r_aload_n C dX5_lotByPicks_26 rfl rfl ?_
      obtain ⟨a8, e8, hw⟩ := hw
      refine r_getA C K7 ob7 g2 (by decide) 5 (by decide) w_123 (fun _ z => z) e8 rfl dX5_lotByPicks_27 ?_
      refine r_iload C dX5_lotByPicks_30 rfl ?_
      obtain ⟨g10, hw⟩ := hw
      refine r_callV (As := [.int v14_4]) (st := []) C (m_Jx4a65c_get_915e3 hl hw) v_Jx4a65c_get_915e3 w_369 K1 g10 (by decide) ob1 rfl ⟨leb rfl, leb rfl⟩ ⟨leb rfl, leb rfl⟩ rfl (leb rfl) dX5_lotByPicks_32 (fun _ _ z => z.elim) (kpA (K := fun hK sK => WS E p l e (rmOf 7 2 12 123) s m args below meth c 6 (vx_MQ below (qcP E (puI h post)) (xcP E (pxP h px)) args s 2 12 (bsA E)) hK (2 + 0) (12 + 0) (32 + 3) [(0, .ref this), (1, .int p0), (2, .int p1), (3, .int v14_3), (4, .int v14_4)] sK) (fun a9 hv => ?_))
      replace hw := hv
      clear hv
      obtain ⟨g11, hw⟩ := hw
      refine r_cast (r := some a9) (t := 6) C K6 w_411 (fun x z => by cases z; exact g11) (by decide) (fun x => ob6) dX5_lotByPicks_35 ?_
      refine r_astore C dX5_lotByPicks_38 (by decide) [(0, .ref this), (1, .int p0), (2, .int p1), (3, .int v14_3), (4, .int v14_4), (5, .ref a9)] ⟨rfl, rfl, rfl, rfl, rfl, rfl, trivial⟩ ?_
      refine r_aload C dX5_lotByPicks_40 rfl ?_
      obtain ⟨x12, e12, hw⟩ := hw
      refine r_getI C K6 ob6 g11 (by decide) 0 (by decide) w_418 (fun _ z => z) e12 rfl dX5_lotByPicks_42 ?_
      refine r_iload_n C dX5_lotByPicks_45 rfl rfl ?_
      replace hw := hw (fun (v64_3 : Int32) => WS E p l e (rmOf 7 2 12 123) s m args below meth c 6 (vx_MQ below (qcP E (puI h post)) (xcP E (pxP h px)) args s 2 12 (bsA E)) h 2 12 64 [(0, .ref this), (1, .int p0), (2, .int p1), (3, .int v64_3), (4, .int v14_4)] []) (by
        intro v64_3 hv
        replace hw := hv
        clear hv
        refine r_iinc C (v14_4 + (1 : Int32)) dX5_lotByPicks_64 rfl rfl (by decide) [(0, .ref this), (1, .int p0), (2, .int p1), (3, .int v64_3), (4, .int (v14_4 + (1 : Int32)))] ⟨rfl, rfl, rfl, rfl, rfl, trivial⟩ ?_
        refine r_goto C 14 dX5_lotByPicks_67 (by decide) ?_
        exact (r_subk hw ⟨rfl, rfl, rfl, rfl, rfl, trivial⟩)
        )
      refine r_icmp_ne C 64 dX5_lotByPicks_46 (by decide) (fun z13 => ?_) (fun z13 => ?_)
      · replace hw := hw.2 z13
        exact (r_subk hw ⟨rfl, rfl, rfl, rfl, rfl, trivial⟩)
      · replace hw := hw.1 z13
        refine r_aload C dX5_lotByPicks_49 rfl ?_
        obtain ⟨x14, e14, hw⟩ := hw
        refine r_getI C K6 ob6 g11 (by decide) 1 (by decide) w_420 (fun _ z => z) e14 rfl dX5_lotByPicks_51 ?_
        refine r_iload_n C dX5_lotByPicks_54 rfl rfl ?_
        refine r_icmp_ne C 64 dX5_lotByPicks_55 (by decide) (fun z15 => ?_) (fun z15 => ?_)
        · replace hw := hw.2 z15
          exact (r_subk hw ⟨rfl, rfl, rfl, rfl, rfl, trivial⟩)
        · replace hw := hw.1 z15
          refine r_aload C dX5_lotByPicks_58 rfl ?_
          obtain ⟨x16, e16, hw⟩ := hw
          refine r_getI C K6 ob6 g11 (by decide) 2 (by decide) w_422 (fun _ z => z) e16 rfl dX5_lotByPicks_60 ?_
          refine r_istore_n C dX5_lotByPicks_63 rfl (by decide) [(0, .ref this), (1, .int p0), (2, .int p1), (3, .int x16), (4, .int v14_4)] ⟨rfl, rfl, rfl, rfl, rfl, trivial⟩ ?_
          exact (r_subk hw ⟨rfl, rfl, rfl, rfl, rfl, trivial⟩)
    )
  exact (r_subk hw ⟨rfl, rfl, rfl, rfl, rfl, trivial⟩)
theorem v_X5_lotByPicks : MV yX5_lotByPicks cX5_lotByPicks 6 (some .int) 2 := ⟨w_772, w_770, w_771, w_37, ⟨by decide +kernel, by decide +kernel, by decide +kernel⟩⟩

def wp_X5_scrapped (h : Hp) (this : Nat) (post : Int32 → Prop) : Prop :=
(hT h this = 7 ∧
 (∃ x2 : Int32, hI h this 8 = x2 ∧
 post x2))
set_option maxHeartbeats 4000000 in
set_option maxRecDepth 100000 in
theorem m_X5_scrapped {E : Ev} {l : Launch} (hl : l.stackTraces = false) {h : Hp} {this : Nat} {post : Int32 → Prop} (hw : wp_X5_scrapped h this post) : MT E l yX5_scrapped cX5_scrapped 1 (some .int) 0 0 0 0 h [.ref this] (puI h post) (pxN) := by
  refine MT.of (by decide) hl (Nat.le_of_ble_eq_true rfl) (fun p e s m args below meth c C => ?_)
  unfold wp_X5_scrapped at hw
  have C : CX E p l s m args meth c cX5_scrapped 1 "TaktLine" "scrapped" (some .int) [] := C
  show WS E p l e (rmOf 0 0 0 0) s m args below meth c 1 (vx_MQ below (qcP E (puI h post)) (xcP E (pxN)) args s 0 0 (bsA E)) h 0 0 0 [(0, .ref this)] []
  refine r_aload_n C dX5_scrapped_0 rfl rfl ?_
  obtain ⟨g1, hw⟩ := hw
  obtain ⟨x2, e2, hw⟩ := hw
  refine r_getI C K7 ob7 g1 (by decide) 8 (by decide) w_126 (fun _ z => z) e2 rfl dX5_scrapped_1 ?_
  exact r_iret C dX5_scrapped_4 (by decide) (by decide) ⟨_, rfl, hw, rfl⟩
theorem v_X5_scrapped : MV yX5_scrapped cX5_scrapped 1 (some .int) 0 := ⟨w_711, w_709, w_710, w_37, ⟨by decide +kernel, by decide +kernel, by decide +kernel⟩⟩

def wp_X5_imageFor (h : Hp) (this : Nat) (p0 : Nat) (p1 : Int32) (post : Nat → Hp → Prop) : Prop :=
(∀ q1 : Nat, hT h q1 = 0 →
 (∀ h2, h2 = sN h q1 3 0 →
 wp_X1_init h2 q1 p1 (fun h4 =>
 (∀ J12 : Int32 → Hp → Prop, (∀ (v12_4 : Int32) (h12_ : Hp), (((10 : Int32) ≤ v12_4 →
 post q1 h12_) ∧ (¬ ((10 : Int32) ≤ v12_4) →
 (hT h12_ q1 = 3 ∧
 (∃ a7 : Nat, hR h12_ q1 1 = some a7 ∧
 (hT h12_ this = 7 ∧
 wp_X5_softwareVersion h12_ this p0 v12_4 (fun x8 =>
 (hT h12_ a7 = 20 ∧
 (∃ j11 : Nat, v12_4 = nI j11 ∧ j11 < 2147483648 ∧ j11 < hL h12_ a7 ∧
 (∀ h12, h12 = sI h12_ a7 j11 x8 →
 J12 (v12_4 + (1 : Int32)) h12))))))))) → J12 v12_4 h12_) →
 J12 (0 : Int32) h4))))
set_option maxHeartbeats 4000000 in
set_option maxRecDepth 100000 in
theorem m_X5_imageFor {E : Ev} {l : Launch} (hl : l.stackTraces = false) {h : Hp} {this : Nat} {p0 : Nat} {p1 : Int32} {post : Nat → Hp → Prop} (hw : wp_X5_imageFor h this p0 p1 post) : MT E l yX5_imageFor cX5_imageFor 5 (some (.object "TaktLine$Image")) 2 61 2 13 h [.ref this, .ref p0, .int p1] (poA post) (pxN) := by
  refine MT.of (by decide) hl (Nat.le_of_ble_eq_true rfl) (fun p e s m args below meth c C => ?_)
  unfold wp_X5_imageFor at hw
  have C : CX E p l s m args meth c cX5_imageFor 5 "TaktLine" "imageFor" (some (.object "TaktLine$Image")) [] := C
  show WS E p l e (rmOf 2 2 13 61) s m args below meth c 5 (vx_MQ below (qcP E (poA post)) (xcP E (pxN)) args s 2 13 (bsA E)) h 0 0 0 [(0, .ref this), (1, .ref p0), (2, .int p1)] []
  refine r_new (t := 3) C K3 w_471 w_492 w_56 (by decide +kernel) ob3 (by decide) (by decide) (by decide) dX5_imageFor_0 (fun q1 z1 => ?_)
  replace hw := hw q1 z1
  obtain ⟨h2, eh2⟩ : ∃ z, z = sN h q1 3 0 := ⟨_, rfl⟩
  replace hw := hw h2 eh2
  rw [← eh2]
  have g3 : hT h2 q1 = 3 := by rw [eh2]; exact tag_new
  refine r_dup C dX5_imageFor_3 rfl ?_
  refine r_iload_n C dX5_imageFor_4 rfl rfl ?_
  refine r_callI (As := [.int p1]) (st := [.ref q1]) C (m_X1_init hl hw) v_X1_init w_493 rfl ⟨leb rfl, leb rfl⟩ ⟨leb rfl, leb rfl⟩ rfl (leb rfl) dX5_imageFor_5 (fun _ _ z => z.elim) (kkV (K := fun hK sK => WS E p l e (rmOf 2 2 13 61) s m args below meth c 5 (vx_MQ below (qcP E (poA post)) (xcP E (pxN)) args s 2 13 (bsA E)) hK (1 + 1) (3 + 10) (5 + 3) [(0, .ref this), (1, .ref p0), (2, .int p1)] sK) (fun h4 hv => ?_))
  replace hw := hv
  clear hv
  refine r_astore_n C dX5_imageFor_8 rfl (by decide) [(0, .ref this), (1, .ref p0), (3, .ref q1)] ⟨rfl, rfl, rfl, trivial⟩ ?_
  refine r_iconst (v := (0 : Int32)) C dX5_imageFor_9 (by decide) ?_
  refine r_istore C dX5_imageFor_10 (by decide) [(0, .ref this), (1, .ref p0), (3, .ref q1), (4, .int (0 : Int32))] ⟨rfl, rfl, rfl, rfl, trivial⟩ ?_
  replace hw := hw (fun (v12_4 : Int32) (h12_ : Hp) => WS E p l e (rmOf 2 2 13 61) s m args below meth c 5 (vx_MQ below (qcP E (poA post)) (xcP E (pxN)) args s 2 13 (bsA E)) h12_ 2 13 12 [(0, .ref this), (1, .ref p0), (3, .ref q1), (4, .int v12_4)] []) (by
    intro v12_4 h12_ hv
    replace hw := hv
    clear hv
    refine r_iload C dX5_imageFor_12 rfl ?_
    refine r_bipush (v := (10 : Int32)) C dX5_imageFor_14 (by decide) ?_
    refine r_icmp_ge C 39 dX5_imageFor_16 (by decide) (fun z5 => ?_) (fun z5 => ?_)
    · replace hw := hw.1 z5
      refine r_aload_n C dX5_imageFor_39 rfl rfl ?_
      exact r_aret (r := some q1) C (Or.inl ⟨_, rfl⟩) dX5_imageFor_40 (by decide) (by decide) ⟨_, rfl, hw⟩
    · replace hw := hw.2 z5
      refine r_aload_n C dX5_imageFor_19 rfl rfl ?_
      obtain ⟨g6, hw⟩ := hw
      obtain ⟨a7, e7, hw⟩ := hw
      refine r_getA C K3 ob3 g6 (by decide) 1 (by decide) w_500 (fun _ z => z) e7 rfl dX5_imageFor_20 ?_
      refine r_iload C dX5_imageFor_23 rfl ?_
      refine r_aload_n C dX5_imageFor_25 rfl rfl ?_
      refine r_aload_n C dX5_imageFor_26 rfl rfl ?_
      refine r_iload C dX5_imageFor_27 rfl ?_
      obtain ⟨g9, hw⟩ := hw
      refine r_callV (As := [.ref p0, .int v12_4]) (st := [.int v12_4, .ref a7]) C (m_X5_softwareVersion hl hw) v_X5_softwareVersion w_337 K7 g9 (by decide) ob7 rfl ⟨leb rfl, leb rfl⟩ ⟨leb rfl, leb rfl⟩ rfl (leb rfl) dX5_imageFor_29 (fun _ _ z => z.elim) (kpI (K := fun hK sK => WS E p l e (rmOf 2 2 13 61) s m args below meth c 5 (vx_MQ below (qcP E (poA post)) (xcP E (pxN)) args s 2 13 (bsA E)) hK (2 + 0) (13 + 0) (29 + 3) [(0, .ref this), (1, .ref p0), (3, .ref q1), (4, .int v12_4)] sK) (fun x8 hv => ?_))
      replace hw := hv
      clear hv
      obtain ⟨g10, hw⟩ := hw
      obtain ⟨j11, f11, l11, k11, hw⟩ := hw
      obtain ⟨h12, eh12⟩ : ∃ z, z = sI h12_ a7 j11 x8 := ⟨_, rfl⟩
      replace hw := hw h12 eh12
      refine s_I C g10 f11 l11 k11 dX5_imageFor_32 eh12 ?_
      refine r_iinc C (v12_4 + (1 : Int32)) dX5_imageFor_33 rfl rfl (by decide) [(0, .ref this), (1, .ref p0), (3, .ref q1), (4, .int (v12_4 + (1 : Int32)))] ⟨rfl, rfl, rfl, rfl, trivial⟩ ?_
      refine r_goto C 12 dX5_imageFor_36 (by decide) ?_
      exact (r_subk hw ⟨rfl, rfl, rfl, rfl, trivial⟩)
    )
  exact (r_subk hw ⟨rfl, rfl, rfl, rfl, trivial⟩)
theorem v_X5_imageFor : MV yX5_imageFor cX5_imageFor 5 (some (.object "TaktLine$Image")) 2 := ⟨w_491, w_490, w_30, w_37, ⟨by decide +kernel, by decide +kernel, by decide +kernel⟩⟩

def wp_X5_build (dE : Nat) (h : Hp) (this : Nat) (p0 : Int32) (post : Int32 → Hp → Prop) (px : String → Hp → Prop) : Prop :=
(hT h this = 7 ∧
 wp_X5_existingCar h this p0 (fun a1 =>
 (∀ J8 : Int32 → Prop, (∀ (v8_3 : Int32), (∃ a3 : Nat, hR h this 3 = some a3 ∧
 (hT h a3 = 1 ∧
 wp_Jx4a65c_size_8abf5 h a3 (fun x4 =>
 ((x4 ≤ v8_3 →
 (∃ a7 : Nat, hR h this 3 = some a7 ∧
 (hT h a7 = 1 ∧
 wp_Jx4a65c_size_8abf5 h a7 (fun x8 =>
 ((x8 < (40 : Int32) →
 (∃ a11 : Nat, hR h this 3 = some a11 ∧
 wp_X5_imageFor h this a1 x8 (fun a12 h12 =>
 (hT h12 a11 = 1 ∧
 wp_Jx4a65c_add_9ea2d dE 1 49 h12 a11 a12 (fun x13 h13 =>
 post x8 h13))))) ∧ (¬ (x8 < (40 : Int32)) →
 px XS h)))))) ∧ (¬ (x4 ≤ v8_3) →
 (∃ a15 : Nat, hR h this 3 = some a15 ∧
 (hT h a15 = 1 ∧
 wp_Jx4a65c_get_915e3 h a15 v8_3 (fun a16 =>
 (hT h a16 = 3 ∧
 wp_X5_isBuiltFor h this a16 a1 (fun x19 =>
 ((x19 = 0 →
 J8 (v8_3 + (1 : Int32))) ∧ (¬ (x19 = 0) →
 post v8_3 h)))))))))))) → J8 v8_3) →
 J8 (0 : Int32))) (fun X => px X h))
set_option maxHeartbeats 4000000 in
set_option maxRecDepth 100000 in
theorem m_X5_build {E : Ev} {l : Launch} (hl : l.stackTraces = false) {h : Hp} {this : Nat} {p0 : Int32} {post : Int32 → Hp → Prop} {px : String → Hp → Prop} (hw : wp_X5_build (eE E) h this p0 post px) : MT E l yX5_build cX5_build 4 (some .int) 8 171 4 68 h [.ref this, .int p0] (poI post) (px) := by
  refine MT.of (by decide) hl (Nat.le_of_ble_eq_true rfl) (fun p e s m args below meth c C => ?_)
  unfold wp_X5_build at hw
  have C : CX E p l s m args meth c cX5_build 4 "TaktLine" "build" (some .int) [] := C
  show WS E p l e (rmOf 8 4 68 171) s m args below meth c 4 (vx_MQ below (qcP E (poI post)) (xcP E (px)) args s 4 68 (bsA E)) h 0 0 0 [(0, .ref this), (1, .int p0)] []
  refine r_aload_n C dX5_build_0 rfl rfl ?_
  refine r_iload_n C dX5_build_1 rfl rfl ?_
  obtain ⟨g2, hw⟩ := hw
  refine r_callV (As := [.int p0]) (st := []) C (m_X5_existingCar hl hw) v_X5_existingCar w_447 K7 g2 (by decide) ob7 rfl ⟨leb rfl, leb rfl⟩ ⟨leb rfl, leb rfl⟩ rfl (leb rfl) dX5_build_2 (fun X h9 hx => by obtain ⟨hx, rfl⟩ := hx; exact r_out C hx (by decide) (by decide)) (kpA (K := fun hK sK => WS E p l e (rmOf 8 4 68 171) s m args below meth c 4 (vx_MQ below (qcP E (poI post)) (xcP E (px)) args s 4 68 (bsA E)) hK (0 + 1) (0 + 6) (2 + 3) [(0, .ref this), (1, .int p0)] sK) (fun a1 hv => ?_))
  replace hw := hv
  clear hv
  refine r_astore_n C dX5_build_5 rfl (by decide) [(0, .ref this), (2, .ref a1)] ⟨rfl, rfl, trivial⟩ ?_
  refine r_iconst (v := (0 : Int32)) C dX5_build_6 (by decide) ?_
  refine r_istore_n C dX5_build_7 rfl (by decide) [(0, .ref this), (2, .ref a1), (3, .int (0 : Int32))] ⟨rfl, rfl, rfl, trivial⟩ ?_
  replace hw := hw (fun (v8_3 : Int32) => WS E p l e (rmOf 8 4 68 171) s m args below meth c 4 (vx_MQ below (qcP E (poI post)) (xcP E (px)) args s 4 68 (bsA E)) h 1 6 8 [(0, .ref this), (2, .ref a1), (3, .int v8_3)] []) (by
    intro v8_3 hv
    replace hw := hv
    clear hv
    refine r_iload_n C dX5_build_8 rfl rfl ?_
    refine r_aload_n C dX5_build_9 rfl rfl ?_
    obtain ⟨a3, e3, hw⟩ := hw
    refine r_getA C K7 ob7 g2 (by decide) 3 (by decide) w_121 (fun _ z => z) e3 rfl dX5_build_10 ?_
    obtain ⟨g5, hw⟩ := hw
    refine r_callV (As := []) (st := [.int v8_3]) C (m_Jx4a65c_size_8abf5 hl hw) v_Jx4a65c_size_8abf5 w_365 K1 g5 (by decide) ob1 rfl ⟨leb rfl, leb rfl⟩ ⟨leb rfl, leb rfl⟩ rfl (leb rfl) dX5_build_13 (fun _ _ z => z.elim) (kpI (K := fun hK sK => WS E p l e (rmOf 8 4 68 171) s m args below meth c 4 (vx_MQ below (qcP E (poI post)) (xcP E (px)) args s 4 68 (bsA E)) hK (1 + 0) (6 + 0) (13 + 3) [(0, .ref this), (2, .ref a1), (3, .int v8_3)] sK) (fun x4 hv => ?_))
    replace hw := hv
    clear hv
    refine r_icmp_ge C 46 dX5_build_16 (by decide) (fun z6 => ?_) (fun z6 => ?_)
    · replace hw := hw.1 z6
      refine r_aload_n C dX5_build_46 rfl rfl ?_
      obtain ⟨a7, e7, hw⟩ := hw
      refine r_getA C K7 ob7 g2 (by decide) 3 (by decide) w_121 (fun _ z => z) e7 rfl dX5_build_47 ?_
      obtain ⟨g9, hw⟩ := hw
      refine r_callV (As := []) (st := []) C (m_Jx4a65c_size_8abf5 hl hw) v_Jx4a65c_size_8abf5 w_365 K1 g9 (by decide) ob1 rfl ⟨leb rfl, leb rfl⟩ ⟨leb rfl, leb rfl⟩ rfl (leb rfl) dX5_build_50 (fun _ _ z => z.elim) (kpI (K := fun hK sK => WS E p l e (rmOf 8 4 68 171) s m args below meth c 4 (vx_MQ below (qcP E (poI post)) (xcP E (px)) args s 4 68 (bsA E)) hK (1 + 0) (6 + 0) (50 + 3) [(0, .ref this), (2, .ref a1), (3, .int v8_3)] sK) (fun x8 hv => ?_))
      replace hw := hv
      clear hv
      refine r_istore_n C dX5_build_53 rfl (by decide) [(0, .ref this), (2, .ref a1), (3, .int x8)] ⟨rfl, rfl, rfl, trivial⟩ ?_
      refine r_iload_n C dX5_build_54 rfl rfl ?_
      refine r_bipush (v := (40 : Int32)) C dX5_build_55 (by decide) ?_
      refine r_icmp_lt C 70 dX5_build_57 (by decide) (fun z10 => ?_) (fun z10 => ?_)
      · replace hw := hw.1 z10
        refine r_aload_n C dX5_build_70 rfl rfl ?_
        obtain ⟨a11, e11, hw⟩ := hw
        refine r_getA C K7 ob7 g2 (by decide) 3 (by decide) w_121 (fun _ z => z) e11 rfl dX5_build_71 ?_
        refine r_aload_n C dX5_build_74 rfl rfl ?_
        refine r_aload_n C dX5_build_75 rfl rfl ?_
        refine r_iload_n C dX5_build_76 rfl rfl ?_
        refine r_callV (As := [.ref a1, .int x8]) (st := [.ref a11]) C (m_X5_imageFor hl hw) v_X5_imageFor w_488 K7 g2 (by decide) ob7 rfl ⟨leb rfl, leb rfl⟩ ⟨leb rfl, leb rfl⟩ rfl (leb rfl) dX5_build_77 (fun _ _ z => z.elim) (kkA (K := fun hK sK => WS E p l e (rmOf 8 4 68 171) s m args below meth c 4 (vx_MQ below (qcP E (poI post)) (xcP E (px)) args s 4 68 (bsA E)) hK (1 + 2) (6 + 13) (77 + 3) [(0, .ref this), (2, .ref a1), (3, .int x8)] sK) (fun a12 h12 hv => ?_))
        replace hw := hv
        clear hv
        obtain ⟨g14, hw⟩ := hw
        refine r_callV (As := [.ref a12]) (st := []) C (m_Jx4a65c_add_9ea2d hl hw) v_Jx4a65c_add_9ea2d w_259 K1 g14 (by decide) ob1 rfl ⟨leb rfl, leb rfl⟩ ⟨leb rfl, leb rfl⟩ rfl (leb rfl) dX5_build_80 (fun _ _ z => z.elim) (kkI (K := fun hK sK => WS E p l e (rmOf 8 4 68 171) s m args below meth c 4 (vx_MQ below (qcP E (poI post)) (xcP E (px)) args s 4 68 (bsA E)) hK (3 + 1) (19 + 49) (80 + 3) [(0, .ref this), (2, .ref a1), (3, .int x8)] sK) (fun x13 h13 hv => ?_))
        replace hw := hv
        clear hv
        refine r_pop C dX5_build_83 rfl ?_
        refine r_iload_n C dX5_build_84 rfl rfl ?_
        exact r_iret C dX5_build_85 (by decide) (by decide) ⟨_, rfl, hw⟩
      · replace hw := hw.2 z10
        exact r_throwS C thrS (text := "there are 40 images") (by decide +kernel) dX5_build_60 dX5_build_63 dX5_build_64 dX5_build_66 dX5_build_69 (leb rfl) (leb rfl) (by decide) (by decide) hw
    · replace hw := hw.2 z6
      refine r_aload_n C dX5_build_19 rfl rfl ?_
      refine r_aload_n C dX5_build_20 rfl rfl ?_
      obtain ⟨a15, e15, hw⟩ := hw
      refine r_getA C K7 ob7 g2 (by decide) 3 (by decide) w_121 (fun _ z => z) e15 rfl dX5_build_21 ?_
      refine r_iload_n C dX5_build_24 rfl rfl ?_
      obtain ⟨g17, hw⟩ := hw
      refine r_callV (As := [.int v8_3]) (st := [.ref this]) C (m_Jx4a65c_get_915e3 hl hw) v_Jx4a65c_get_915e3 w_369 K1 g17 (by decide) ob1 rfl ⟨leb rfl, leb rfl⟩ ⟨leb rfl, leb rfl⟩ rfl (leb rfl) dX5_build_25 (fun _ _ z => z.elim) (kpA (K := fun hK sK => WS E p l e (rmOf 8 4 68 171) s m args below meth c 4 (vx_MQ below (qcP E (poI post)) (xcP E (px)) args s 4 68 (bsA E)) hK (1 + 0) (6 + 0) (25 + 3) [(0, .ref this), (2, .ref a1), (3, .int v8_3)] sK) (fun a16 hv => ?_))
      replace hw := hv
      clear hv
      obtain ⟨g18, hw⟩ := hw
      refine r_cast (r := some a16) (t := 3) C K3 w_471 (fun x z => by cases z; exact g18) (by decide) (fun x => ob3) dX5_build_28 ?_
      refine r_aload_n C dX5_build_31 rfl rfl ?_
      refine r_callV (As := [.ref a16, .ref a1]) (st := []) C (m_X5_isBuiltFor hl hw) v_X5_isBuiltFor w_333 K7 g2 (by decide) ob7 rfl ⟨leb rfl, leb rfl⟩ ⟨leb rfl, leb rfl⟩ rfl (leb rfl) dX5_build_32 (fun _ _ z => z.elim) (kpI (K := fun hK sK => WS E p l e (rmOf 8 4 68 171) s m args below meth c 4 (vx_MQ below (qcP E (poI post)) (xcP E (px)) args s 4 68 (bsA E)) hK (1 + 0) (6 + 0) (32 + 3) [(0, .ref this), (2, .ref a1), (3, .int v8_3)] sK) (fun x19 hv => ?_))
      replace hw := hv
      clear hv
      refine r_if_eq C 40 dX5_build_35 (by decide) (fun z20 => ?_) (fun z20 => ?_)
      · replace hw := hw.1 z20
        refine r_iinc C (v8_3 + (1 : Int32)) dX5_build_40 rfl rfl (by decide) [(0, .ref this), (2, .ref a1), (3, .int (v8_3 + (1 : Int32)))] ⟨rfl, rfl, rfl, trivial⟩ ?_
        refine r_goto C 8 dX5_build_43 (by decide) ?_
        exact (r_subk hw ⟨rfl, rfl, rfl, trivial⟩)
      · replace hw := hw.2 z20
        refine r_iload_n C dX5_build_38 rfl rfl ?_
        exact r_iret C dX5_build_39 (by decide) (by decide) ⟨_, rfl, hw⟩
    )
  exact (r_subk hw ⟨rfl, rfl, rfl, trivial⟩)
theorem v_X5_build : MV yX5_build cX5_build 4 (some .int) 1 := ⟨w_446, w_444, w_445, w_37, ⟨by decide +kernel, by decide +kernel, by decide +kernel⟩⟩

def wp_X5_existingImage (h : Hp) (this : Nat) (p0 : Int32) (post : Nat → Prop) (px : String → Prop) : Prop :=
(∀ J15 : Prop, ((px XB) → J15) →
 ((p0 < 0 →
 J15) ∧ (¬ (p0 < 0) →
 (hT h this = 7 ∧
 (∃ a3 : Nat, hR h this 3 = some a3 ∧
 (hT h a3 = 1 ∧
 wp_Jx4a65c_size_8abf5 h a3 (fun x4 =>
 ((p0 < x4 →
 (∃ a7 : Nat, hR h this 3 = some a7 ∧
 (hT h a7 = 1 ∧
 wp_Jx4a65c_get_915e3 h a7 p0 (fun a8 =>
 (hT h a8 = 3 ∧
 post a8))))) ∧ (¬ (p0 < x4) →
 J15)))))))))
set_option maxHeartbeats 4000000 in
set_option maxRecDepth 100000 in
theorem m_X5_existingImage {E : Ev} {l : Launch} (hl : l.stackTraces = false) {h : Hp} {this : Nat} {p0 : Int32} {post : Nat → Prop} {px : String → Prop} (hw : wp_X5_existingImage h this p0 post px) : MT E l yX5_existingImage cX5_existingImage 2 (some (.object "TaktLine$Image")) 6 102 1 6 h [.ref this, .int p0] (puA h post) (pxP h px) := by
  refine MT.of (by decide) hl (Nat.le_of_ble_eq_true rfl) (fun p e s m args below meth c C => ?_)
  unfold wp_X5_existingImage at hw
  have C : CX E p l s m args meth c cX5_existingImage 2 "TaktLine" "existingImage" (some (.object "TaktLine$Image")) [] := C
  show WS E p l e (rmOf 6 1 6 102) s m args below meth c 2 (vx_MQ below (qcP E (puA h post)) (xcP E (pxP h px)) args s 1 6 (bsA E)) h 0 0 0 [(0, .ref this), (1, .int p0)] []
  refine r_iload_n C dX5_existingImage_0 rfl rfl ?_
  replace hw := hw (WS E p l e (rmOf 6 1 6 102) s m args below meth c 2 (vx_MQ below (qcP E (puA h post)) (xcP E (pxP h px)) args s 1 6 (bsA E)) h 0 0 15 [] []) (by
    intro hv
    replace hw := hv
    clear hv
    exact r_throwSW C thrB (text := "there is no such image") (by decide +kernel) dX5_existingImage_15 dX5_existingImage_18 dX5_existingImage_19 dX5_existingImage_22 dX5_existingImage_25 (leb rfl) (leb rfl) (by decide) (by decide) ⟨hw, rfl⟩
    )
  refine r_if_lt C 15 dX5_existingImage_1 (by decide) (fun z1 => ?_) (fun z1 => ?_)
  · replace hw := hw.1 z1
    exact (r_subk hw trivial)
  · replace hw := hw.2 z1
    refine r_iload_n C dX5_existingImage_4 rfl rfl ?_
    refine r_aload_n C dX5_existingImage_5 rfl rfl ?_
    obtain ⟨g2, hw⟩ := hw
    obtain ⟨a3, e3, hw⟩ := hw
    refine r_getA C K7 ob7 g2 (by decide) 3 (by decide) w_121 (fun _ z => z) e3 rfl dX5_existingImage_6 ?_
    obtain ⟨g5, hw⟩ := hw
    refine r_callV (As := []) (st := [.int p0]) C (m_Jx4a65c_size_8abf5 hl hw) v_Jx4a65c_size_8abf5 w_365 K1 g5 (by decide) ob1 rfl ⟨leb rfl, leb rfl⟩ ⟨leb rfl, leb rfl⟩ rfl (leb rfl) dX5_existingImage_9 (fun _ _ z => z.elim) (kpI (K := fun hK sK => WS E p l e (rmOf 6 1 6 102) s m args below meth c 2 (vx_MQ below (qcP E (puA h post)) (xcP E (pxP h px)) args s 1 6 (bsA E)) hK (0 + 0) (0 + 0) (9 + 3) [(0, .ref this), (1, .int p0)] sK) (fun x4 hv => ?_))
    replace hw := hv
    clear hv
    refine r_icmp_lt C 26 dX5_existingImage_12 (by decide) (fun z6 => ?_) (fun z6 => ?_)
    · replace hw := hw.1 z6
      refine r_aload_n C dX5_existingImage_26 rfl rfl ?_
      obtain ⟨a7, e7, hw⟩ := hw
      refine r_getA C K7 ob7 g2 (by decide) 3 (by decide) w_121 (fun _ z => z) e7 rfl dX5_existingImage_27 ?_
      refine r_iload_n C dX5_existingImage_30 rfl rfl ?_
      obtain ⟨g9, hw⟩ := hw
      refine r_callV (As := [.int p0]) (st := []) C (m_Jx4a65c_get_915e3 hl hw) v_Jx4a65c_get_915e3 w_369 K1 g9 (by decide) ob1 rfl ⟨leb rfl, leb rfl⟩ ⟨leb rfl, leb rfl⟩ rfl (leb rfl) dX5_existingImage_31 (fun _ _ z => z.elim) (kpA (K := fun hK sK => WS E p l e (rmOf 6 1 6 102) s m args below meth c 2 (vx_MQ below (qcP E (puA h post)) (xcP E (pxP h px)) args s 1 6 (bsA E)) hK (0 + 0) (0 + 0) (31 + 3) [(0, .ref this), (1, .int p0)] sK) (fun a8 hv => ?_))
      replace hw := hv
      clear hv
      obtain ⟨g10, hw⟩ := hw
      refine r_cast (r := some a8) (t := 3) C K3 w_471 (fun x z => by cases z; exact g10) (by decide) (fun x => ob3) dX5_existingImage_34 ?_
      exact r_aret (r := some a8) C (Or.inl ⟨_, rfl⟩) dX5_existingImage_37 (by decide) (by decide) ⟨_, rfl, hw, rfl⟩
    · replace hw := hw.2 z6
      exact (r_subk hw trivial)
theorem v_X5_existingImage : MV yX5_existingImage cX5_existingImage 2 (some (.object "TaktLine$Image")) 1 := ⟨w_692, w_691, w_34, w_37, ⟨by decide +kernel, by decide +kernel, by decide +kernel⟩⟩

def wp_X5_sign (h : Hp) (this : Nat) (p0 : Int32) (p1 : Int32) (post : Int32 → Hp → Prop) (px : String → Hp → Prop) : Prop :=
(hT h this = 7 ∧
 wp_X5_existingImage h this p0 (fun a1 =>
 wp_X5_checkCar h this p1 ((hT h a1 = 3 ∧
 wp_X1_isSignedFor h a1 p1 (fun x4 =>
 (∀ J24 : Int32 → Prop, (∀ (t24_0 : Int32), (∃ x6 : Int32, hI h a1 2 = x6 ∧
 (∀ h7, h7 = sI h a1 2 (x6 ||| ((1 : Int32) <<< (p1 &&& 31))) →
 (b01 t24_0 ∧
 post t24_0 h7))) → J24 t24_0) →
 ((x4 = 0 →
 J24 (1 : Int32)) ∧ (¬ (x4 = 0) →
 J24 (0 : Int32))))))) (fun X => px X h)) (fun X => px X h))
set_option maxHeartbeats 4000000 in
set_option maxRecDepth 100000 in
theorem m_X5_sign {E : Ev} {l : Launch} (hl : l.stackTraces = false) {h : Hp} {this : Nat} {p0 : Int32} {p1 : Int32} {post : Int32 → Hp → Prop} {px : String → Hp → Prop} (hw : wp_X5_sign h this p0 p1 post px) : MT E l yX5_sign cX5_sign 5 (some .boolean) 7 123 2 12 h [.ref this, .int p0, .int p1] (poI post) (px) := by
  refine MT.of (by decide) hl (Nat.le_of_ble_eq_true rfl) (fun p e s m args below meth c C => ?_)
  unfold wp_X5_sign at hw
  have C : CX E p l s m args meth c cX5_sign 5 "TaktLine" "sign" (some .boolean) [] := C
  show WS E p l e (rmOf 7 2 12 123) s m args below meth c 5 (vx_MQ below (qcP E (poI post)) (xcP E (px)) args s 2 12 (bsA E)) h 0 0 0 [(0, .ref this), (1, .int p0), (2, .int p1)] []
  refine r_aload_n C dX5_sign_0 rfl rfl ?_
  refine r_iload_n C dX5_sign_1 rfl rfl ?_
  obtain ⟨g2, hw⟩ := hw
  refine r_callV (As := [.int p0]) (st := []) C (m_X5_existingImage hl hw) v_X5_existingImage w_689 K7 g2 (by decide) ob7 rfl ⟨leb rfl, leb rfl⟩ ⟨leb rfl, leb rfl⟩ rfl (leb rfl) dX5_sign_2 (fun X h9 hx => by obtain ⟨hx, rfl⟩ := hx; exact r_out C hx (by decide) (by decide)) (kpA (K := fun hK sK => WS E p l e (rmOf 7 2 12 123) s m args below meth c 5 (vx_MQ below (qcP E (poI post)) (xcP E (px)) args s 2 12 (bsA E)) hK (0 + 1) (0 + 6) (2 + 3) [(0, .ref this), (1, .int p0), (2, .int p1)] sK) (fun a1 hv => ?_))
  replace hw := hv
  clear hv
  refine r_astore_n C dX5_sign_5 rfl (by decide) [(0, .ref this), (2, .int p1), (3, .ref a1)] ⟨rfl, rfl, rfl, trivial⟩ ?_
  refine r_aload_n C dX5_sign_6 rfl rfl ?_
  refine r_iload_n C dX5_sign_7 rfl rfl ?_
  refine r_callV (As := [.int p1]) (st := []) C (m_X5_checkCar hl hw) v_X5_checkCar w_451 K7 g2 (by decide) ob7 rfl ⟨leb rfl, leb rfl⟩ ⟨leb rfl, leb rfl⟩ rfl (leb rfl) dX5_sign_8 (fun X h9 hx => by obtain ⟨hx, rfl⟩ := hx; exact r_out C hx (by decide) (by decide)) (kpV (K := fun hK sK => WS E p l e (rmOf 7 2 12 123) s m args below meth c 5 (vx_MQ below (qcP E (poI post)) (xcP E (px)) args s 2 12 (bsA E)) hK (1 + 1) (6 + 6) (8 + 3) [(0, .ref this), (2, .int p1), (3, .ref a1)] sK) (fun hv => ?_))
  replace hw := hv
  clear hv
  refine r_aload_n C dX5_sign_11 rfl rfl ?_
  refine r_iload_n C dX5_sign_12 rfl rfl ?_
  obtain ⟨g5, hw⟩ := hw
  refine r_callV (As := [.int p1]) (st := []) C (m_X1_isSignedFor hl hw) v_X1_isSignedFor w_329 K3 g5 (by decide) ob3 rfl ⟨leb rfl, leb rfl⟩ ⟨leb rfl, leb rfl⟩ rfl (leb rfl) dX5_sign_13 (fun _ _ z => z.elim) (kpI (K := fun hK sK => WS E p l e (rmOf 7 2 12 123) s m args below meth c 5 (vx_MQ below (qcP E (poI post)) (xcP E (px)) args s 2 12 (bsA E)) hK (2 + 0) (12 + 0) (13 + 3) [(0, .ref this), (2, .int p1), (3, .ref a1)] sK) (fun x4 hv => ?_))
  replace hw := hv
  clear hv
  replace hw := hw (fun (t24_0 : Int32) => WS E p l e (rmOf 7 2 12 123) s m args below meth c 5 (vx_MQ below (qcP E (poI post)) (xcP E (px)) args s 2 12 (bsA E)) h 2 12 24 [(2, .int p1), (3, .ref a1)] [.int t24_0]) (by
    intro t24_0 hv
    replace hw := hv
    clear hv
    refine r_istore C dX5_sign_24 (by decide) [(2, .int p1), (3, .ref a1), (4, .int t24_0)] ⟨rfl, rfl, rfl, trivial⟩ ?_
    refine r_aload_n C dX5_sign_26 rfl rfl ?_
    refine r_dup C dX5_sign_27 rfl ?_
    obtain ⟨x6, e6, hw⟩ := hw
    refine r_getI C K3 ob3 g5 (by decide) 2 (by decide) w_502 (fun _ z => z) e6 rfl dX5_sign_28 ?_
    refine r_iconst (v := (1 : Int32)) C dX5_sign_31 (by decide) ?_
    refine r_iload_n C dX5_sign_32 rfl rfl ?_
    refine r_ishl C dX5_sign_33 ?_
    refine r_ior C dX5_sign_34 ?_
    obtain ⟨h7, eh7⟩ : ∃ z, z = sI h a1 2 (x6 ||| ((1 : Int32) <<< (p1 &&& 31))) := ⟨_, rfl⟩
    replace hw := hw h7 eh7
    refine p_I C K3 ob3 g5 (by decide) 2 (by decide) w_502 (fun _ z => z) rfl (by decide +kernel) (Nat.le_of_ble_eq_true rfl) rfl dX5_sign_35 eh7 ?_
    refine r_iload C dX5_sign_38 rfl ?_
    obtain ⟨y8, hw⟩ := hw
    exact r_zret C y8 dX5_sign_40 (by decide) (by decide) ⟨_, rfl, hw⟩
    )
  refine r_if_ne C 23 dX5_sign_16 (by decide) (fun z9 => ?_) (fun z9 => ?_)
  · replace hw := hw.2 z9
    refine r_iconst (v := (0 : Int32)) C dX5_sign_23 (by decide) ?_
    exact (r_subk hw ⟨rfl, rfl, trivial⟩)
  · replace hw := hw.1 z9
    refine r_iconst (v := (1 : Int32)) C dX5_sign_19 (by decide) ?_
    refine r_goto C 24 dX5_sign_20 (by decide) ?_
    exact (r_subk hw ⟨rfl, rfl, trivial⟩)
theorem v_X5_sign : MV yX5_sign cX5_sign 5 (some .boolean) 2 := ⟨w_688, w_686, w_687, w_37, ⟨by decide +kernel, by decide +kernel, by decide +kernel⟩⟩

def wp_X5_flash (h : Hp) (this : Nat) (p0 : Int32) (p1 : Int32) (post : Int32 → Hp → Prop) (px : String → Hp → Prop) : Prop :=
(hT h this = 7 ∧
 wp_X5_existingCar h this p0 (fun a1 =>
 wp_X5_existingImage h this p1 (fun a3 =>
 (hT h a1 = 2 ∧
 (∃ x5 : Int32, hI h a1 3 = x5 ∧
 (∀ J29 : Prop, ((px XS h) → J29) →
 ((x5 = (1 : Int32) →
 (∃ x7 : Int32, hI h a1 4 = x7 ∧
 (((5 : Int32) ≤ x7 →
 (∃ r9 : Option Nat, hR h a1 5 = r9 ∧
 (∀ h10, h10 = sR h a1 5 (some a3) →
 (∀ h12, h12 = sI h10 a1 6 (0 : Int32) →
 (∀ h14, h14 = sI h12 a1 7 (0 : Int32) →
 (∀ J75 : Int32 → Prop, (∀ (t75_0 : Int32), (post t75_0 h14) → J75 t75_0) →
 ((r9 = none →
 J75 (-1 : Int32)) ∧ (∀ x15, r9 = some x15 →
 (hT h14 x15 = 3 ∧
 (∃ x17 : Int32, hI h14 x15 0 = x17 ∧
 J75 x17)))))))))) ∧ (¬ ((5 : Int32) ≤ x7) →
 J29)))) ∧ (¬ (x5 = (1 : Int32)) →
 J29)))))) (fun X => px X h)) (fun X => px X h))
set_option maxHeartbeats 4000000 in
set_option maxRecDepth 100000 in
theorem m_X5_flash {E : Ev} {l : Launch} (hl : l.stackTraces = false) {h : Hp} {this : Nat} {p0 : Int32} {p1 : Int32} {post : Int32 → Hp → Prop} {px : String → Hp → Prop} (hw : wp_X5_flash h this p0 p1 post px) : MT E l yX5_flash cX5_flash 6 (some .int) 8 144 3 18 h [.ref this, .int p0, .int p1] (poI post) (px) := by
  refine MT.of (by decide) hl (Nat.le_of_ble_eq_true rfl) (fun p e s m args below meth c C => ?_)
  unfold wp_X5_flash at hw
  have C : CX E p l s m args meth c cX5_flash 6 "TaktLine" "flash" (some .int) [] := C
  show WS E p l e (rmOf 8 3 18 144) s m args below meth c 6 (vx_MQ below (qcP E (poI post)) (xcP E (px)) args s 3 18 (bsA E)) h 0 0 0 [(0, .ref this), (1, .int p0), (2, .int p1)] []
  refine r_aload_n C dX5_flash_0 rfl rfl ?_
  refine r_iload_n C dX5_flash_1 rfl rfl ?_
  obtain ⟨g2, hw⟩ := hw
  refine r_callV (As := [.int p0]) (st := []) C (m_X5_existingCar hl hw) v_X5_existingCar w_447 K7 g2 (by decide) ob7 rfl ⟨leb rfl, leb rfl⟩ ⟨leb rfl, leb rfl⟩ rfl (leb rfl) dX5_flash_2 (fun X h9 hx => by obtain ⟨hx, rfl⟩ := hx; exact r_out C hx (by decide) (by decide)) (kpA (K := fun hK sK => WS E p l e (rmOf 8 3 18 144) s m args below meth c 6 (vx_MQ below (qcP E (poI post)) (xcP E (px)) args s 3 18 (bsA E)) hK (0 + 1) (0 + 6) (2 + 3) [(0, .ref this), (1, .int p0), (2, .int p1)] sK) (fun a1 hv => ?_))
  replace hw := hv
  clear hv
  refine r_astore_n C dX5_flash_5 rfl (by decide) [(0, .ref this), (2, .int p1), (3, .ref a1)] ⟨rfl, rfl, rfl, trivial⟩ ?_
  refine r_aload_n C dX5_flash_6 rfl rfl ?_
  refine r_iload_n C dX5_flash_7 rfl rfl ?_
  refine r_callV (As := [.int p1]) (st := []) C (m_X5_existingImage hl hw) v_X5_existingImage w_689 K7 g2 (by decide) ob7 rfl ⟨leb rfl, leb rfl⟩ ⟨leb rfl, leb rfl⟩ rfl (leb rfl) dX5_flash_8 (fun X h9 hx => by obtain ⟨hx, rfl⟩ := hx; exact r_out C hx (by decide) (by decide)) (kpA (K := fun hK sK => WS E p l e (rmOf 8 3 18 144) s m args below meth c 6 (vx_MQ below (qcP E (poI post)) (xcP E (px)) args s 3 18 (bsA E)) hK (1 + 1) (6 + 6) (8 + 3) [(0, .ref this), (2, .int p1), (3, .ref a1)] sK) (fun a3 hv => ?_))
  replace hw := hv
  clear hv
  refine r_astore C dX5_flash_11 (by decide) [(3, .ref a1), (4, .ref a3)] ⟨rfl, rfl, trivial⟩ ?_
  refine r_aload_n C dX5_flash_13 rfl rfl ?_
  obtain ⟨g4, hw⟩ := hw
  obtain ⟨x5, e5, hw⟩ := hw
  refine r_getI C K2 ob2 g4 (by decide) 3 (by decide) w_641 (fun _ z => z) e5 rfl dX5_flash_14 ?_
  refine r_iconst (v := (1 : Int32)) C dX5_flash_17 (by decide) ?_
  replace hw := hw (WS E p l e (rmOf 8 3 18 144) s m args below meth c 6 (vx_MQ below (qcP E (poI post)) (xcP E (px)) args s 3 18 (bsA E)) h 2 12 29 [] []) (by
    intro hv
    replace hw := hv
    clear hv
    exact r_throwS C thrS (text := "the car is not on the line at a station from 5 to 7") (by decide +kernel) dX5_flash_29 dX5_flash_32 dX5_flash_33 dX5_flash_35 dX5_flash_38 (leb rfl) (leb rfl) (by decide) (by decide) hw
    )
  refine r_icmp_ne C 29 dX5_flash_18 (by decide) (fun z6 => ?_) (fun z6 => ?_)
  · replace hw := hw.2 z6
    exact (r_subk hw trivial)
  · replace hw := hw.1 z6
    refine r_aload_n C dX5_flash_21 rfl rfl ?_
    obtain ⟨x7, e7, hw⟩ := hw
    refine r_getI C K2 ob2 g4 (by decide) 4 (by decide) w_643 (fun _ z => z) e7 rfl dX5_flash_22 ?_
    refine r_iconst (v := (5 : Int32)) C dX5_flash_25 (by decide) ?_
    refine r_icmp_ge C 39 dX5_flash_26 (by decide) (fun z8 => ?_) (fun z8 => ?_)
    · replace hw := hw.1 z8
      refine r_aload_n C dX5_flash_39 rfl rfl ?_
      obtain ⟨r9, e9, hw⟩ := hw
      refine r_getR C K2 ob2 g4 (by decide) 5 (by decide) w_645 (fun _ z => z) e9 rfl dX5_flash_40 ?_
      refine r_astoreq C dX5_flash_43 (by decide) [(3, .ref a1), (4, .ref a3), (5, va_rf r9)] ⟨rfl, rfl, rfl, trivial⟩ ?_
      refine r_aload_n C dX5_flash_45 rfl rfl ?_
      refine r_aload C dX5_flash_46 rfl ?_
      obtain ⟨h10, eh10⟩ : ∃ z, z = sR h a1 5 (some a3) := ⟨_, rfl⟩
      replace hw := hw h10 eh10
      refine p_R C K2 ob2 g4 (by decide) 5 (by decide) w_645 (fun _ z => z) rfl (some a3) (fty := .object "TaktLine$Image") (by decide +kernel) (Or.inl ⟨_, rfl⟩) (Nat.le_of_ble_eq_true rfl) rfl dX5_flash_48 eh10 ?_
      refine r_aload_n C dX5_flash_51 rfl rfl ?_
      refine r_iconst (v := (0 : Int32)) C dX5_flash_52 (by decide) ?_
      have g11 : hT h10 a1 = 2 := by rw [eh10]; exact g4
      obtain ⟨h12, eh12⟩ : ∃ z, z = sI h10 a1 6 (0 : Int32) := ⟨_, rfl⟩
      replace hw := hw h12 eh12
      refine p_B C K2 ob2 g11 (by decide) 6 (by decide) w_647 (fun _ z => z) rfl (Or.inl rfl) (by decide +kernel) (Nat.le_of_ble_eq_true rfl) rfl dX5_flash_53 eh12 ?_
      refine r_aload_n C dX5_flash_56 rfl rfl ?_
      refine r_iconst (v := (0 : Int32)) C dX5_flash_57 (by decide) ?_
      have g13 : hT h12 a1 = 2 := by rw [eh12]; exact g11
      obtain ⟨h14, eh14⟩ : ∃ z, z = sI h12 a1 7 (0 : Int32) := ⟨_, rfl⟩
      replace hw := hw h14 eh14
      refine p_B C K2 ob2 g13 (by decide) 7 (by decide) w_649 (fun _ z => z) rfl (Or.inl rfl) (by decide +kernel) (Nat.le_of_ble_eq_true rfl) rfl dX5_flash_58 eh14 ?_
      refine r_aloadq C dX5_flash_61 rfl ?_
      replace hw := hw (fun (t75_0 : Int32) => WS E p l e (rmOf 8 3 18 144) s m args below meth c 6 (vx_MQ below (qcP E (poI post)) (xcP E (px)) args s 3 18 (bsA E)) h14 2 12 75 [] [.int t75_0]) (by
        intro t75_0 hv
        replace hw := hv
        clear hv
        exact r_iret C dX5_flash_75 (by decide) (by decide) ⟨_, rfl, hw⟩
        )
      refine r_ifnonnull C 70 dX5_flash_63 (by decide) (fun x15 z15 => ?_) (fun z15 => ?_)
      · replace hw := hw.2 x15 z15
        subst z15
        refine r_aload C dX5_flash_70 rfl ?_
        obtain ⟨g16, hw⟩ := hw
        obtain ⟨x17, e17, hw⟩ := hw
        refine r_getI C K3 ob3 g16 (by decide) 0 (by decide) w_498 (fun _ z => z) e17 rfl dX5_flash_72 ?_
        exact (r_subk hw trivial)
      · replace hw := hw.1 z15
        subst z15
        refine r_iconst (v := (-1 : Int32)) C dX5_flash_66 (by decide) ?_
        refine r_goto C 75 dX5_flash_67 (by decide) ?_
        exact (r_subk hw trivial)
    · replace hw := hw.2 z8
      exact (r_subk hw trivial)
theorem v_X5_flash : MV yX5_flash cX5_flash 6 (some .int) 2 := ⟨w_700, w_698, w_699, w_37, ⟨by decide +kernel, by decide +kernel, by decide +kernel⟩⟩

def wp_X5_imageOf (h : Hp) (this : Nat) (p0 : Int32) (post : Int32 → Prop) (px : String → Prop) : Prop :=
(hT h this = 7 ∧
 wp_X5_existingCar h this p0 (fun a1 =>
 (hT h a1 = 2 ∧
 (∃ r4 : Option Nat, hR h a1 5 = r4 ∧
 (∀ J21 : Int32 → Prop, (∀ (t21_0 : Int32), (post t21_0) → J21 t21_0) →
 ((r4 = none →
 J21 (-1 : Int32)) ∧ (∀ x5, r4 = some x5 →
 (hT h x5 = 3 ∧
 (∃ x7 : Int32, hI h x5 0 = x7 ∧
 J21 x7)))))))) px)
set_option maxHeartbeats 4000000 in
set_option maxRecDepth 100000 in
theorem m_X5_imageOf {E : Ev} {l : Launch} (hl : l.stackTraces = false) {h : Hp} {this : Nat} {p0 : Int32} {post : Int32 → Prop} {px : String → Prop} (hw : wp_X5_imageOf h this p0 post px) : MT E l yX5_imageOf cX5_imageOf 3 (some .int) 8 144 1 6 h [.ref this, .int p0] (puI h post) (pxP h px) := by
  refine MT.of (by decide) hl (Nat.le_of_ble_eq_true rfl) (fun p e s m args below meth c C => ?_)
  unfold wp_X5_imageOf at hw
  have C : CX E p l s m args meth c cX5_imageOf 3 "TaktLine" "imageOf" (some .int) [] := C
  show WS E p l e (rmOf 8 1 6 144) s m args below meth c 3 (vx_MQ below (qcP E (puI h post)) (xcP E (pxP h px)) args s 1 6 (bsA E)) h 0 0 0 [(0, .ref this), (1, .int p0)] []
  refine r_aload_n C dX5_imageOf_0 rfl rfl ?_
  refine r_iload_n C dX5_imageOf_1 rfl rfl ?_
  obtain ⟨g2, hw⟩ := hw
  refine r_callV (As := [.int p0]) (st := []) C (m_X5_existingCar hl hw) v_X5_existingCar w_447 K7 g2 (by decide) ob7 rfl ⟨leb rfl, leb rfl⟩ ⟨leb rfl, leb rfl⟩ rfl (leb rfl) dX5_imageOf_2 (fun X h9 hx => by obtain ⟨hx, rfl⟩ := hx; exact r_out C ⟨hx, rfl⟩ (by decide) (by decide)) (kpA (K := fun hK sK => WS E p l e (rmOf 8 1 6 144) s m args below meth c 3 (vx_MQ below (qcP E (puI h post)) (xcP E (pxP h px)) args s 1 6 (bsA E)) hK (0 + 1) (0 + 6) (2 + 3) [(0, .ref this), (1, .int p0)] sK) (fun a1 hv => ?_))
  replace hw := hv
  clear hv
  obtain ⟨g3, hw⟩ := hw
  obtain ⟨r4, e4, hw⟩ := hw
  refine r_getR C K2 ob2 g3 (by decide) 5 (by decide) w_645 (fun _ z => z) e4 rfl dX5_imageOf_5 ?_
  refine r_astoreq_n C dX5_imageOf_8 rfl (by decide) [(2, va_rf r4)] ⟨rfl, trivial⟩ ?_
  refine r_aloadq_n C dX5_imageOf_9 rfl rfl ?_
  replace hw := hw (fun (t21_0 : Int32) => WS E p l e (rmOf 8 1 6 144) s m args below meth c 3 (vx_MQ below (qcP E (puI h post)) (xcP E (pxP h px)) args s 1 6 (bsA E)) h 1 6 21 [] [.int t21_0]) (by
    intro t21_0 hv
    replace hw := hv
    clear hv
    exact r_iret C dX5_imageOf_21 (by decide) (by decide) ⟨_, rfl, hw, rfl⟩
    )
  refine r_ifnonnull C 17 dX5_imageOf_10 (by decide) (fun x5 z5 => ?_) (fun z5 => ?_)
  · replace hw := hw.2 x5 z5
    subst z5
    refine r_aload_n C dX5_imageOf_17 rfl rfl ?_
    obtain ⟨g6, hw⟩ := hw
    obtain ⟨x7, e7, hw⟩ := hw
    refine r_getI C K3 ob3 g6 (by decide) 0 (by decide) w_498 (fun _ z => z) e7 rfl dX5_imageOf_18 ?_
    exact (r_subk hw trivial)
  · replace hw := hw.1 z5
    subst z5
    refine r_iconst (v := (-1 : Int32)) C dX5_imageOf_13 (by decide) ?_
    refine r_goto C 21 dX5_imageOf_14 (by decide) ?_
    exact (r_subk hw trivial)
theorem v_X5_imageOf : MV yX5_imageOf cX5_imageOf 3 (some .int) 1 := ⟨w_735, w_733, w_734, w_37, ⟨by decide +kernel, by decide +kernel, by decide +kernel⟩⟩

def wp_X5_images (h : Hp) (this : Nat) (post : Int32 → Prop) : Prop :=
(hT h this = 7 ∧
 (∃ a2 : Nat, hR h this 3 = some a2 ∧
 (hT h a2 = 1 ∧
 wp_Jx4a65c_size_8abf5 h a2 (fun x3 =>
 post x3))))
set_option maxHeartbeats 4000000 in
set_option maxRecDepth 100000 in
theorem m_X5_images {E : Ev} {l : Launch} (hl : l.stackTraces = false) {h : Hp} {this : Nat} {post : Int32 → Prop} (hw : wp_X5_images h this post) : MT E l yX5_images cX5_images 1 (some .int) 1 20 0 0 h [.ref this] (puI h post) (pxN) := by
  refine MT.of (by decide) hl (Nat.le_of_ble_eq_true rfl) (fun p e s m args below meth c C => ?_)
  unfold wp_X5_images at hw
  have C : CX E p l s m args meth c cX5_images 1 "TaktLine" "images" (some .int) [] := C
  show WS E p l e (rmOf 1 0 0 20) s m args below meth c 1 (vx_MQ below (qcP E (puI h post)) (xcP E (pxN)) args s 0 0 (bsA E)) h 0 0 0 [(0, .ref this)] []
  refine r_aload_n C dX5_images_0 rfl rfl ?_
  obtain ⟨g1, hw⟩ := hw
  obtain ⟨a2, e2, hw⟩ := hw
  refine r_getA C K7 ob7 g1 (by decide) 3 (by decide) w_121 (fun _ z => z) e2 rfl dX5_images_1 ?_
  obtain ⟨g4, hw⟩ := hw
  refine r_callV (As := []) (st := []) C (m_Jx4a65c_size_8abf5 hl hw) v_Jx4a65c_size_8abf5 w_365 K1 g4 (by decide) ob1 rfl ⟨leb rfl, leb rfl⟩ ⟨leb rfl, leb rfl⟩ rfl (leb rfl) dX5_images_4 (fun _ _ z => z.elim) (kpI (K := fun hK sK => WS E p l e (rmOf 1 0 0 20) s m args below meth c 1 (vx_MQ below (qcP E (puI h post)) (xcP E (pxN)) args s 0 0 (bsA E)) hK (0 + 0) (0 + 0) (4 + 3) [(0, .ref this)] sK) (fun x3 hv => ?_))
  replace hw := hv
  clear hv
  exact r_iret C dX5_images_7 (by decide) (by decide) ⟨_, rfl, hw, rfl⟩
theorem v_X5_images : MV yX5_images cX5_images 1 (some .int) 0 := ⟨w_514, w_512, w_513, w_37, ⟨by decide +kernel, by decide +kernel, by decide +kernel⟩⟩

def wp_X5_isFit (h : Hp) (this : Nat) (p0 : Int32) (post : Int32 → Prop) (px : String → Prop) : Prop :=
(hT h this = 7 ∧
 wp_X5_existingCar h this p0 (fun a1 =>
 wp_X5_fits h this a1 (fun x3 =>
 (b01 x3 ∧
 post x3))) px)
set_option maxHeartbeats 4000000 in
set_option maxRecDepth 100000 in
theorem m_X5_isFit {E : Ev} {l : Launch} (hl : l.stackTraces = false) {h : Hp} {this : Nat} {p0 : Int32} {post : Int32 → Prop} {px : String → Prop} (hw : wp_X5_isFit h this p0 post px) : MT E l yX5_isFit cX5_isFit 2 (some .boolean) 8 144 1 6 h [.ref this, .int p0] (puI h post) (pxP h px) := by
  refine MT.of (by decide) hl (Nat.le_of_ble_eq_true rfl) (fun p e s m args below meth c C => ?_)
  unfold wp_X5_isFit at hw
  have C : CX E p l s m args meth c cX5_isFit 2 "TaktLine" "isFit" (some .boolean) [] := C
  show WS E p l e (rmOf 8 1 6 144) s m args below meth c 2 (vx_MQ below (qcP E (puI h post)) (xcP E (pxP h px)) args s 1 6 (bsA E)) h 0 0 0 [(0, .ref this), (1, .int p0)] []
  refine r_aload_n C dX5_isFit_0 rfl rfl ?_
  refine r_aload_n C dX5_isFit_1 rfl rfl ?_
  refine r_iload_n C dX5_isFit_2 rfl rfl ?_
  obtain ⟨g2, hw⟩ := hw
  refine r_callV (As := [.int p0]) (st := [.ref this]) C (m_X5_existingCar hl hw) v_X5_existingCar w_447 K7 g2 (by decide) ob7 rfl ⟨leb rfl, leb rfl⟩ ⟨leb rfl, leb rfl⟩ rfl (leb rfl) dX5_isFit_3 (fun X h9 hx => by obtain ⟨hx, rfl⟩ := hx; exact r_out C ⟨hx, rfl⟩ (by decide) (by decide)) (kpA (K := fun hK sK => WS E p l e (rmOf 8 1 6 144) s m args below meth c 2 (vx_MQ below (qcP E (puI h post)) (xcP E (pxP h px)) args s 1 6 (bsA E)) hK (0 + 1) (0 + 6) (3 + 3) [(0, .ref this), (1, .int p0)] sK) (fun a1 hv => ?_))
  replace hw := hv
  clear hv
  refine r_callV (As := [.ref a1]) (st := []) C (m_X5_fits hl hw) v_X5_fits w_325 K7 g2 (by decide) ob7 rfl ⟨leb rfl, leb rfl⟩ ⟨leb rfl, leb rfl⟩ rfl (leb rfl) dX5_isFit_6 (fun _ _ z => z.elim) (kpI (K := fun hK sK => WS E p l e (rmOf 8 1 6 144) s m args below meth c 2 (vx_MQ below (qcP E (puI h post)) (xcP E (pxP h px)) args s 1 6 (bsA E)) hK (1 + 0) (6 + 0) (6 + 3) [(0, .ref this), (1, .int p0)] sK) (fun x3 hv => ?_))
  replace hw := hv
  clear hv
  obtain ⟨y4, hw⟩ := hw
  exact r_zret C y4 dX5_isFit_9 (by decide) (by decide) ⟨_, rfl, hw, rfl⟩
theorem v_X5_isFit : MV yX5_isFit cX5_isFit 2 (some .boolean) 1 := ⟨w_743, w_741, w_742, w_37, ⟨by decide +kernel, by decide +kernel, by decide +kernel⟩⟩

def wp_X5_isTested (h : Hp) (this : Nat) (p0 : Int32) (post : Int32 → Prop) (px : String → Prop) : Prop :=
(hT h this = 7 ∧
 wp_X5_existingCar h this p0 (fun a1 =>
 (hT h a1 = 2 ∧
 (∃ x4 : Int32, hI h a1 6 = x4 ∧
 (b01 x4 ∧
 post x4)))) px)
set_option maxHeartbeats 4000000 in
set_option maxRecDepth 100000 in
theorem m_X5_isTested {E : Ev} {l : Launch} (hl : l.stackTraces = false) {h : Hp} {this : Nat} {p0 : Int32} {post : Int32 → Prop} {px : String → Prop} (hw : wp_X5_isTested h this p0 post px) : MT E l yX5_isTested cX5_isTested 2 (some .boolean) 8 144 1 6 h [.ref this, .int p0] (puI h post) (pxP h px) := by
  refine MT.of (by decide) hl (Nat.le_of_ble_eq_true rfl) (fun p e s m args below meth c C => ?_)
  unfold wp_X5_isTested at hw
  have C : CX E p l s m args meth c cX5_isTested 2 "TaktLine" "isTested" (some .boolean) [] := C
  show WS E p l e (rmOf 8 1 6 144) s m args below meth c 2 (vx_MQ below (qcP E (puI h post)) (xcP E (pxP h px)) args s 1 6 (bsA E)) h 0 0 0 [(0, .ref this), (1, .int p0)] []
  refine r_aload_n C dX5_isTested_0 rfl rfl ?_
  refine r_iload_n C dX5_isTested_1 rfl rfl ?_
  obtain ⟨g2, hw⟩ := hw
  refine r_callV (As := [.int p0]) (st := []) C (m_X5_existingCar hl hw) v_X5_existingCar w_447 K7 g2 (by decide) ob7 rfl ⟨leb rfl, leb rfl⟩ ⟨leb rfl, leb rfl⟩ rfl (leb rfl) dX5_isTested_2 (fun X h9 hx => by obtain ⟨hx, rfl⟩ := hx; exact r_out C ⟨hx, rfl⟩ (by decide) (by decide)) (kpA (K := fun hK sK => WS E p l e (rmOf 8 1 6 144) s m args below meth c 2 (vx_MQ below (qcP E (puI h post)) (xcP E (pxP h px)) args s 1 6 (bsA E)) hK (0 + 1) (0 + 6) (2 + 3) [(0, .ref this), (1, .int p0)] sK) (fun a1 hv => ?_))
  replace hw := hv
  clear hv
  obtain ⟨g3, hw⟩ := hw
  obtain ⟨x4, e4, hw⟩ := hw
  refine r_getI C K2 ob2 g3 (by decide) 6 (by decide) w_647 (fun _ z => z) e4 rfl dX5_isTested_5 ?_
  obtain ⟨y5, hw⟩ := hw
  exact r_zret C y5 dX5_isTested_8 (by decide) (by decide) ⟨_, rfl, hw, rfl⟩
theorem v_X5_isTested : MV yX5_isTested cX5_isTested 2 (some .boolean) 1 := ⟨w_739, w_737, w_738, w_37, ⟨by decide +kernel, by decide +kernel, by decide +kernel⟩⟩

def wp_X5_failed (h : Hp) (this : Nat) (post : Int32 → Prop) : Prop :=
(hT h this = 7 ∧
 (∃ x2 : Int32, hI h this 9 = x2 ∧
 post x2))
set_option maxHeartbeats 4000000 in
set_option maxRecDepth 100000 in
theorem m_X5_failed {E : Ev} {l : Launch} (hl : l.stackTraces = false) {h : Hp} {this : Nat} {post : Int32 → Prop} (hw : wp_X5_failed h this post) : MT E l yX5_failed cX5_failed 1 (some .int) 0 0 0 0 h [.ref this] (puI h post) (pxN) := by
  refine MT.of (by decide) hl (Nat.le_of_ble_eq_true rfl) (fun p e s m args below meth c C => ?_)
  unfold wp_X5_failed at hw
  have C : CX E p l s m args meth c cX5_failed 1 "TaktLine" "failed" (some .int) [] := C
  show WS E p l e (rmOf 0 0 0 0) s m args below meth c 1 (vx_MQ below (qcP E (puI h post)) (xcP E (pxN)) args s 0 0 (bsA E)) h 0 0 0 [(0, .ref this)] []
  refine r_aload_n C dX5_failed_0 rfl rfl ?_
  obtain ⟨g1, hw⟩ := hw
  obtain ⟨x2, e2, hw⟩ := hw
  refine r_getI C K7 ob7 g1 (by decide) 9 (by decide) w_127 (fun _ z => z) e2 rfl dX5_failed_1 ?_
  exact r_iret C dX5_failed_4 (by decide) (by decide) ⟨_, rfl, hw, rfl⟩
theorem v_X5_failed : MV yX5_failed cX5_failed 1 (some .int) 0 := ⟨w_715, w_713, w_714, w_37, ⟨by decide +kernel, by decide +kernel, by decide +kernel⟩⟩

def wp_X5_atLarge (h : Hp) (this : Nat) (post : Int32 → Prop) : Prop :=
(∀ J4 : Int32 → Int32 → Prop, (∀ (v4_1 : Int32) (v4_2 : Int32), (hT h this = 7 ∧
 (∃ a2 : Nat, hR h this 2 = some a2 ∧
 (hT h a2 = 1 ∧
 wp_Jx4a65c_size_8abf5 h a2 (fun x3 =>
 ((x3 ≤ v4_2 →
 post v4_1) ∧ (¬ (x3 ≤ v4_2) →
 (∃ a6 : Nat, hR h this 2 = some a6 ∧
 (hT h a6 = 1 ∧
 wp_Jx4a65c_get_915e3 h a6 v4_2 (fun a7 =>
 (hT h a7 = 2 ∧
 (∃ x10 : Int32, hI h a7 3 = x10 ∧
 (∀ J45 : Int32 → Prop, (∀ (v45_1 : Int32), (J4 v45_1 (v4_2 + (1 : Int32))) → J45 v45_1) →
 ((x10 = (3 : Int32) →
 wp_X0_hasRecalledUnit h a7 (fun x12 =>
 ((x12 = 0 →
 J45 v4_1) ∧ (¬ (x12 = 0) →
 J45 (v4_1 + (1 : Int32)))))) ∧ (¬ (x10 = (3 : Int32)) →
 J45 v4_1)))))))))))))) → J4 v4_1 v4_2) →
 J4 (0 : Int32) (0 : Int32))
set_option maxHeartbeats 4000000 in
set_option maxRecDepth 100000 in
theorem m_X5_atLarge {E : Ev} {l : Launch} (hl : l.stackTraces = false) {h : Hp} {this : Nat} {post : Int32 → Prop} (hw : wp_X5_atLarge h this post) : MT E l yX5_atLarge cX5_atLarge 4 (some .int) 3 64 0 0 h [.ref this] (puI h post) (pxN) := by
  refine MT.of (by decide) hl (Nat.le_of_ble_eq_true rfl) (fun p e s m args below meth c C => ?_)
  unfold wp_X5_atLarge at hw
  have C : CX E p l s m args meth c cX5_atLarge 4 "TaktLine" "atLarge" (some .int) [] := C
  show WS E p l e (rmOf 3 0 0 64) s m args below meth c 4 (vx_MQ below (qcP E (puI h post)) (xcP E (pxN)) args s 0 0 (bsA E)) h 0 0 0 [(0, .ref this)] []
  refine r_iconst (v := (0 : Int32)) C dX5_atLarge_0 (by decide) ?_
  refine r_istore_n C dX5_atLarge_1 rfl (by decide) [(0, .ref this), (1, .int (0 : Int32))] ⟨rfl, rfl, trivial⟩ ?_
  refine r_iconst (v := (0 : Int32)) C dX5_atLarge_2 (by decide) ?_
  refine r_istore_n C dX5_atLarge_3 rfl (by decide) [(0, .ref this), (1, .int (0 : Int32)), (2, .int (0 : Int32))] ⟨rfl, rfl, rfl, trivial⟩ ?_
  replace hw := hw (fun (v4_1 : Int32) (v4_2 : Int32) => WS E p l e (rmOf 3 0 0 64) s m args below meth c 4 (vx_MQ below (qcP E (puI h post)) (xcP E (pxN)) args s 0 0 (bsA E)) h 0 0 4 [(0, .ref this), (1, .int v4_1), (2, .int v4_2)] []) (by
    intro v4_1 v4_2 hv
    replace hw := hv
    clear hv
    refine r_iload_n C dX5_atLarge_4 rfl rfl ?_
    refine r_aload_n C dX5_atLarge_5 rfl rfl ?_
    obtain ⟨g1, hw⟩ := hw
    obtain ⟨a2, e2, hw⟩ := hw
    refine r_getA C K7 ob7 g1 (by decide) 2 (by decide) w_120 (fun _ z => z) e2 rfl dX5_atLarge_6 ?_
    obtain ⟨g4, hw⟩ := hw
    refine r_callV (As := []) (st := [.int v4_2]) C (m_Jx4a65c_size_8abf5 hl hw) v_Jx4a65c_size_8abf5 w_365 K1 g4 (by decide) ob1 rfl ⟨leb rfl, leb rfl⟩ ⟨leb rfl, leb rfl⟩ rfl (leb rfl) dX5_atLarge_9 (fun _ _ z => z.elim) (kpI (K := fun hK sK => WS E p l e (rmOf 3 0 0 64) s m args below meth c 4 (vx_MQ below (qcP E (puI h post)) (xcP E (pxN)) args s 0 0 (bsA E)) hK (0 + 0) (0 + 0) (9 + 3) [(0, .ref this), (1, .int v4_1), (2, .int v4_2)] sK) (fun x3 hv => ?_))
    replace hw := hv
    clear hv
    refine r_icmp_ge C 51 dX5_atLarge_12 (by decide) (fun z5 => ?_) (fun z5 => ?_)
    · replace hw := hw.1 z5
      refine r_iload_n C dX5_atLarge_51 rfl rfl ?_
      exact r_iret C dX5_atLarge_52 (by decide) (by decide) ⟨_, rfl, hw, rfl⟩
    · replace hw := hw.2 z5
      refine r_aload_n C dX5_atLarge_15 rfl rfl ?_
      obtain ⟨a6, e6, hw⟩ := hw
      refine r_getA C K7 ob7 g1 (by decide) 2 (by decide) w_120 (fun _ z => z) e6 rfl dX5_atLarge_16 ?_
      refine r_iload_n C dX5_atLarge_19 rfl rfl ?_
      obtain ⟨g8, hw⟩ := hw
      refine r_callV (As := [.int v4_2]) (st := []) C (m_Jx4a65c_get_915e3 hl hw) v_Jx4a65c_get_915e3 w_369 K1 g8 (by decide) ob1 rfl ⟨leb rfl, leb rfl⟩ ⟨leb rfl, leb rfl⟩ rfl (leb rfl) dX5_atLarge_20 (fun _ _ z => z.elim) (kpA (K := fun hK sK => WS E p l e (rmOf 3 0 0 64) s m args below meth c 4 (vx_MQ below (qcP E (puI h post)) (xcP E (pxN)) args s 0 0 (bsA E)) hK (0 + 0) (0 + 0) (20 + 3) [(0, .ref this), (1, .int v4_1), (2, .int v4_2)] sK) (fun a7 hv => ?_))
      replace hw := hv
      clear hv
      obtain ⟨g9, hw⟩ := hw
      refine r_cast (r := some a7) (t := 2) C K2 w_94 (fun x z => by cases z; exact g9) (by decide) (fun x => ob2) dX5_atLarge_23 ?_
      refine r_astore_n C dX5_atLarge_26 rfl (by decide) [(0, .ref this), (1, .int v4_1), (2, .int v4_2), (3, .ref a7)] ⟨rfl, rfl, rfl, rfl, trivial⟩ ?_
      refine r_aload_n C dX5_atLarge_27 rfl rfl ?_
      obtain ⟨x10, e10, hw⟩ := hw
      refine r_getI C K2 ob2 g9 (by decide) 3 (by decide) w_641 (fun _ z => z) e10 rfl dX5_atLarge_28 ?_
      refine r_iconst (v := (3 : Int32)) C dX5_atLarge_31 (by decide) ?_
      replace hw := hw (fun (v45_1 : Int32) => WS E p l e (rmOf 3 0 0 64) s m args below meth c 4 (vx_MQ below (qcP E (puI h post)) (xcP E (pxN)) args s 0 0 (bsA E)) h 0 0 45 [(0, .ref this), (1, .int v45_1), (2, .int v4_2)] []) (by
        intro v45_1 hv
        replace hw := hv
        clear hv
        refine r_iinc C (v4_2 + (1 : Int32)) dX5_atLarge_45 rfl rfl (by decide) [(0, .ref this), (1, .int v45_1), (2, .int (v4_2 + (1 : Int32)))] ⟨rfl, rfl, rfl, trivial⟩ ?_
        refine r_goto C 4 dX5_atLarge_48 (by decide) ?_
        exact (r_subk hw ⟨rfl, rfl, rfl, trivial⟩)
        )
      refine r_icmp_ne C 45 dX5_atLarge_32 (by decide) (fun z11 => ?_) (fun z11 => ?_)
      · replace hw := hw.2 z11
        exact (r_subk hw ⟨rfl, rfl, rfl, trivial⟩)
      · replace hw := hw.1 z11
        refine r_aload_n C dX5_atLarge_35 rfl rfl ?_
        refine r_callV (As := []) (st := []) C (m_X0_hasRecalledUnit hl hw) v_X0_hasRecalledUnit w_720 K2 g9 (by decide) ob2 rfl ⟨leb rfl, leb rfl⟩ ⟨leb rfl, leb rfl⟩ rfl (leb rfl) dX5_atLarge_36 (fun _ _ z => z.elim) (kpI (K := fun hK sK => WS E p l e (rmOf 3 0 0 64) s m args below meth c 4 (vx_MQ below (qcP E (puI h post)) (xcP E (pxN)) args s 0 0 (bsA E)) hK (0 + 0) (0 + 0) (36 + 3) [(0, .ref this), (1, .int v4_1), (2, .int v4_2), (3, .ref a7)] sK) (fun x12 hv => ?_))
        replace hw := hv
        clear hv
        refine r_if_eq C 45 dX5_atLarge_39 (by decide) (fun z13 => ?_) (fun z13 => ?_)
        · replace hw := hw.1 z13
          exact (r_subk hw ⟨rfl, rfl, rfl, trivial⟩)
        · replace hw := hw.2 z13
          refine r_iinc C (v4_1 + (1 : Int32)) dX5_atLarge_42 rfl rfl (by decide) [(0, .ref this), (1, .int (v4_1 + (1 : Int32))), (2, .int v4_2)] ⟨rfl, rfl, rfl, trivial⟩ ?_
          exact (r_subk hw ⟨rfl, rfl, rfl, trivial⟩)
    )
  exact (r_subk hw ⟨rfl, rfl, rfl, trivial⟩)
theorem v_X5_atLarge : MV yX5_atLarge cX5_atLarge 4 (some .int) 0 := ⟨w_719, w_717, w_718, w_37, ⟨by decide +kernel, by decide +kernel, by decide +kernel⟩⟩

