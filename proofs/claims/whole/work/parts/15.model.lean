def wp_X6_sign (h : Hp) (this : Nat) (p0 : Int32) (p1 : Int32) (post : Int32 → Hp → Prop) : Prop :=
(hT h this = 8 ∧
 wp_X6_isImage h this p0 (fun x1 =>
 (∀ J22 : Int32 → Prop, (∀ (t22_0 : Int32), (wp_X6_goesWell h this t22_0 (fun x3 h3 =>
 ((x3 = 0 →
 post (0 : Int32) h3) ∧ (¬ (x3 = 0) →
 (hT h3 this = 8 ∧
 (∃ a6 : Nat, hR h3 this 25 = some a6 ∧
 (hT h3 a6 = 21 ∧
 (∃ j8 : Nat, ((30 : Int32) * p0) + p1 = nI j8 ∧ j8 < 2147483648 ∧ j8 < hL h3 a6 ∧
 (∃ x9 : Int32, hI h3 a6 j8 = x9 ∧
 (∃ a10 : Nat, hR h3 this 25 = some a10 ∧
 (hT h3 a10 = 21 ∧
 (∃ j12 : Nat, ((30 : Int32) * p0) + p1 = nI j12 ∧ j12 < 2147483648 ∧ j12 < hL h3 a10 ∧
 (∀ h13, h13 = sI h3 a10 j12 (1 : Int32) →
 (∀ J63 : Int32 → Prop, (∀ (t63_0 : Int32), (b01 t63_0 ∧
 post t63_0 h13) → J63 t63_0) →
 ((x9 = 0 →
 J63 (1 : Int32)) ∧ (¬ (x9 = 0) →
 J63 (0 : Int32))))))))))))))))) → J22 t22_0) →
 (∀ J21 : Prop, ((J22 (1 : Int32)) → J21) →
 ((x1 = 0 →
 J21) ∧ (¬ (x1 = 0) →
 wp_X6_isCar h this p1 (fun x17 =>
 ((x17 = 0 →
 J21) ∧ (¬ (x17 = 0) →
 J22 (0 : Int32))))))))))
set_option maxHeartbeats 4000000 in
set_option maxRecDepth 100000 in
theorem m_X6_sign {E : Ev} {l : Launch} (hl : l.stackTraces = false) {h : Hp} {this : Nat} {p0 : Int32} {p1 : Int32} {post : Int32 → Hp → Prop} (hw : wp_X6_sign h this p0 p1 post) : MT E l yX6_sign cX6_sign 4 (some .boolean) 2 43 0 0 h [.ref this, .int p0, .int p1] (poI post) (pxN) := by
  refine MT.of (by decide) hl (Nat.le_of_ble_eq_true rfl) (fun p e s m args below meth c C => ?_)
  unfold wp_X6_sign at hw
  have C : CX E p l s m args meth c cX6_sign 4 "TaktLineModel" "sign" (some .boolean) [] := C
  show WS E p l e (rmOf 2 0 0 43) s m args below meth c 4 (vx_MQ below (qcP E (poI post)) (xcP E (pxN)) args s 0 0 (bsA E)) h 0 0 0 [(0, .ref this), (1, .int p0), (2, .int p1)] []
  refine r_aload_n C dX6_sign_0 rfl rfl ?_
  refine r_aload_n C dX6_sign_1 rfl rfl ?_
  refine r_iload_n C dX6_sign_2 rfl rfl ?_
  obtain ⟨g2, hw⟩ := hw
  refine r_callV (As := [.int p0]) (st := [.ref this]) C (m_X6_isImage hl hw) v_X6_isImage w_992 K8 g2 (by decide) ob8 rfl ⟨leb rfl, leb rfl⟩ ⟨leb rfl, leb rfl⟩ rfl (leb rfl) dX6_sign_3 (fun _ _ z => z.elim) (kpI (K := fun hK sK => WS E p l e (rmOf 2 0 0 43) s m args below meth c 4 (vx_MQ below (qcP E (poI post)) (xcP E (pxN)) args s 0 0 (bsA E)) hK (0 + 0) (0 + 0) (3 + 3) [(0, .ref this), (1, .int p0), (2, .int p1)] sK) (fun x1 hv => ?_))
  replace hw := hv
  clear hv
  replace hw := hw (fun (t22_0 : Int32) => WS E p l e (rmOf 2 0 0 43) s m args below meth c 4 (vx_MQ below (qcP E (poI post)) (xcP E (pxN)) args s 0 0 (bsA E)) h 0 0 22 [(0, .ref this), (1, .int p0), (2, .int p1)] [.int t22_0, .ref this]) (by
    intro t22_0 hv
    replace hw := hv
    clear hv
    refine r_callV (As := [.int t22_0]) (st := []) C (m_X6_goesWell hl hw) v_X6_goesWell w_919 K8 g2 (by decide) ob8 rfl ⟨leb rfl, leb rfl⟩ ⟨leb rfl, leb rfl⟩ rfl (leb rfl) dX6_sign_22 (fun _ _ z => z.elim) (kkI (K := fun hK sK => WS E p l e (rmOf 2 0 0 43) s m args below meth c 4 (vx_MQ below (qcP E (poI post)) (xcP E (pxN)) args s 0 0 (bsA E)) hK (0 + 0) (0 + 0) (22 + 3) [(0, .ref this), (1, .int p0), (2, .int p1)] sK) (fun x3 h3 hv => ?_))
    replace hw := hv
    clear hv
    refine r_if_ne C 30 dX6_sign_25 (by decide) (fun z4 => ?_) (fun z4 => ?_)
    · replace hw := hw.2 z4
      refine r_aload_n C dX6_sign_30 rfl rfl ?_
      obtain ⟨g5, hw⟩ := hw
      obtain ⟨a6, e6, hw⟩ := hw
      refine r_getA C K8 ob8 g5 (by decide) 25 (by decide) w_838 (fun _ z => z) e6 rfl dX6_sign_31 ?_
      refine r_bipush (v := (30 : Int32)) C dX6_sign_34 (by decide) ?_
      refine r_iload_n C dX6_sign_36 rfl rfl ?_
      refine r_imul C dX6_sign_37 ?_
      refine r_iload_n C dX6_sign_38 rfl rfl ?_
      refine r_iadd C dX6_sign_39 ?_
      obtain ⟨g7, hw⟩ := hw
      obtain ⟨j8, f8, l8, k8, hw⟩ := hw
      obtain ⟨x9, e9, hw⟩ := hw
      refine a_B C g7 f8 l8 k8 e9 dX6_sign_40 ?_
      refine r_istore_n C dX6_sign_41 rfl (by decide) [(0, .ref this), (1, .int p0), (2, .int p1), (3, .int x9)] ⟨rfl, rfl, rfl, rfl, trivial⟩ ?_
      refine r_aload_n C dX6_sign_42 rfl rfl ?_
      obtain ⟨a10, e10, hw⟩ := hw
      refine r_getA C K8 ob8 g5 (by decide) 25 (by decide) w_838 (fun _ z => z) e10 rfl dX6_sign_43 ?_
      refine r_bipush (v := (30 : Int32)) C dX6_sign_46 (by decide) ?_
      refine r_iload_n C dX6_sign_48 rfl rfl ?_
      refine r_imul C dX6_sign_49 ?_
      refine r_iload_n C dX6_sign_50 rfl rfl ?_
      refine r_iadd C dX6_sign_51 ?_
      refine r_iconst (v := (1 : Int32)) C dX6_sign_52 (by decide) ?_
      obtain ⟨g11, hw⟩ := hw
      obtain ⟨j12, f12, l12, k12, hw⟩ := hw
      obtain ⟨h13, eh13⟩ : ∃ z, z = sI h3 a10 j12 (1 : Int32) := ⟨_, rfl⟩
      replace hw := hw h13 eh13
      refine s_B C g11 f12 l12 k12 (Or.inr rfl) dX6_sign_53 eh13 ?_
      refine r_iload_n C dX6_sign_54 rfl rfl ?_
      replace hw := hw (fun (t63_0 : Int32) => WS E p l e (rmOf 2 0 0 43) s m args below meth c 4 (vx_MQ below (qcP E (poI post)) (xcP E (pxN)) args s 0 0 (bsA E)) h13 0 0 63 [] [.int t63_0]) (by
        intro t63_0 hv
        replace hw := hv
        clear hv
        obtain ⟨y14, hw⟩ := hw
        exact r_zret C y14 dX6_sign_63 (by decide) (by decide) ⟨_, rfl, hw⟩
        )
      refine r_if_ne C 62 dX6_sign_55 (by decide) (fun z15 => ?_) (fun z15 => ?_)
      · replace hw := hw.2 z15
        refine r_iconst (v := (0 : Int32)) C dX6_sign_62 (by decide) ?_
        exact (r_subk hw trivial)
      · replace hw := hw.1 z15
        refine r_iconst (v := (1 : Int32)) C dX6_sign_58 (by decide) ?_
        refine r_goto C 63 dX6_sign_59 (by decide) ?_
        exact (r_subk hw trivial)
    · replace hw := hw.1 z4
      refine r_iconst (v := (0 : Int32)) C dX6_sign_28 (by decide) ?_
      exact r_zret C (Or.inl rfl) dX6_sign_29 (by decide) (by decide) ⟨_, rfl, hw⟩
    )
  replace hw := hw (WS E p l e (rmOf 2 0 0 43) s m args below meth c 4 (vx_MQ below (qcP E (poI post)) (xcP E (pxN)) args s 0 0 (bsA E)) h 0 0 21 [(0, .ref this), (1, .int p0), (2, .int p1)] [.ref this]) (by
    intro hv
    replace hw := hv
    clear hv
    refine r_iconst (v := (1 : Int32)) C dX6_sign_21 (by decide) ?_
    exact (r_subk hw ⟨rfl, rfl, rfl, trivial⟩)
    )
  refine r_if_eq C 21 dX6_sign_6 (by decide) (fun z16 => ?_) (fun z16 => ?_)
  · replace hw := hw.1 z16
    exact (r_subk hw ⟨rfl, rfl, rfl, trivial⟩)
  · replace hw := hw.2 z16
    refine r_aload_n C dX6_sign_9 rfl rfl ?_
    refine r_iload_n C dX6_sign_10 rfl rfl ?_
    refine r_callV (As := [.int p1]) (st := [.ref this]) C (m_X6_isCar hl hw) v_X6_isCar w_943 K8 g2 (by decide) ob8 rfl ⟨leb rfl, leb rfl⟩ ⟨leb rfl, leb rfl⟩ rfl (leb rfl) dX6_sign_11 (fun _ _ z => z.elim) (kpI (K := fun hK sK => WS E p l e (rmOf 2 0 0 43) s m args below meth c 4 (vx_MQ below (qcP E (poI post)) (xcP E (pxN)) args s 0 0 (bsA E)) hK (0 + 0) (0 + 0) (11 + 3) [(0, .ref this), (1, .int p0), (2, .int p1)] sK) (fun x17 hv => ?_))
    replace hw := hv
    clear hv
    refine r_if_eq C 21 dX6_sign_14 (by decide) (fun z18 => ?_) (fun z18 => ?_)
    · replace hw := hw.1 z18
      exact (r_subk hw ⟨rfl, rfl, rfl, trivial⟩)
    · replace hw := hw.2 z18
      refine r_iconst (v := (0 : Int32)) C dX6_sign_17 (by decide) ?_
      refine r_goto C 22 dX6_sign_18 (by decide) ?_
      exact (r_subk hw ⟨rfl, rfl, rfl, trivial⟩)
theorem v_X6_sign : MV yX6_sign cX6_sign 4 (some .boolean) 2 := ⟨w_991, w_989, w_990, w_60, ⟨by decide +kernel, by decide +kernel, by decide +kernel⟩⟩

def wp_X6_flash (h : Hp) (this : Nat) (p0 : Int32) (p1 : Int32) (post : Int32 → Hp → Prop) : Prop :=
(hT h this = 8 ∧
 wp_X6_isCar h this p0 (fun x1 =>
 (∀ J21 : Int32 → Prop, (∀ (t21_0 : Int32), (∀ J51 : Int32 → Prop, (∀ (t51_0 : Int32), (∀ J72 : Int32 → Prop, (∀ (t72_0 : Int32), (wp_X6_goesWell h this t72_0 (fun x3 h3 =>
 ((x3 = 0 →
 post (0 : Int32) h3) ∧ (¬ (x3 = 0) →
 (hT h3 this = 8 ∧
 (∃ a6 : Nat, hR h3 this 15 = some a6 ∧
 (hT h3 a6 = 20 ∧
 (∃ j8 : Nat, p0 = nI j8 ∧ j8 < 2147483648 ∧ j8 < hL h3 a6 ∧
 (∃ x9 : Int32, hI h3 a6 j8 = x9 ∧
 (∃ a10 : Nat, hR h3 this 15 = some a10 ∧
 (hT h3 a10 = 20 ∧
 (∃ j12 : Nat, p0 = nI j12 ∧ j12 < 2147483648 ∧ j12 < hL h3 a10 ∧
 (∀ h13, h13 = sI h3 a10 j12 (p1 + (1 : Int32)) →
 (∃ a15 : Nat, hR h13 this 16 = some a15 ∧
 (hT h13 a15 = 21 ∧
 (∃ j17 : Nat, p0 = nI j17 ∧ j17 < 2147483648 ∧ j17 < hL h13 a15 ∧
 (∀ h18, h18 = sI h13 a15 j17 (0 : Int32) →
 (∃ a20 : Nat, hR h18 this 17 = some a20 ∧
 (hT h18 a20 = 21 ∧
 (∃ j22 : Nat, p0 = nI j22 ∧ j22 < 2147483648 ∧ j22 < hL h18 a20 ∧
 (∀ h23, h23 = sI h18 a20 j22 (0 : Int32) →
 post (x9 - (1 : Int32)) h23))))))))))))))))))))) → J72 t72_0) →
 ((t21_0 = 0 →
 J72 (1 : Int32)) ∧ (¬ (t21_0 = 0) →
 ((t51_0 = 0 →
 J72 (2 : Int32)) ∧ (¬ (t51_0 = 0) →
 J72 (0 : Int32)))))) → J51 t51_0) →
 (∀ J50 : Prop, ((J51 (0 : Int32)) → J50) →
 ((t21_0 = 0 →
 J50) ∧ (¬ (t21_0 = 0) →
 (∃ a27 : Nat, hR h this 12 = some a27 ∧
 (hT h a27 = 20 ∧
 (∃ j29 : Nat, p0 = nI j29 ∧ j29 < 2147483648 ∧ j29 < hL h a27 ∧
 (∃ x30 : Int32, hI h a27 j29 = x30 ∧
 ((x30 = (1 : Int32) →
 (∃ a32 : Nat, hR h this 13 = some a32 ∧
 (hT h a32 = 20 ∧
 (∃ j34 : Nat, p0 = nI j34 ∧ j34 < 2147483648 ∧ j34 < hL h a32 ∧
 (∃ x35 : Int32, hI h a32 j34 = x35 ∧
 ((x35 < (5 : Int32) →
 J50) ∧ (¬ (x35 < (5 : Int32)) →
 J51 (1 : Int32)))))))) ∧ (¬ (x30 = (1 : Int32)) →
 J50)))))))))) → J21 t21_0) →
 (∀ J20 : Prop, ((J21 (0 : Int32)) → J20) →
 ((x1 = 0 →
 J20) ∧ (¬ (x1 = 0) →
 wp_X6_isImage h this p1 (fun x38 =>
 ((x38 = 0 →
 J20) ∧ (¬ (x38 = 0) →
 J21 (1 : Int32))))))))))
set_option maxHeartbeats 4000000 in
set_option maxRecDepth 100000 in
theorem m_X6_flash {E : Ev} {l : Launch} (hl : l.stackTraces = false) {h : Hp} {this : Nat} {p0 : Int32} {p1 : Int32} {post : Int32 → Hp → Prop} (hw : wp_X6_flash h this p0 p1 post) : MT E l yX6_flash cX6_flash 6 (some .int) 2 43 0 0 h [.ref this, .int p0, .int p1] (poI post) (pxN) := by
  refine MT.of (by decide) hl (Nat.le_of_ble_eq_true rfl) (fun p e s m args below meth c C => ?_)
  unfold wp_X6_flash at hw
  have C : CX E p l s m args meth c cX6_flash 6 "TaktLineModel" "flash" (some .int) [] := C
  show WS E p l e (rmOf 2 0 0 43) s m args below meth c 6 (vx_MQ below (qcP E (poI post)) (xcP E (pxN)) args s 0 0 (bsA E)) h 0 0 0 [(0, .ref this), (1, .int p0), (2, .int p1)] []
  refine r_aload_n C dX6_flash_0 rfl rfl ?_
  refine r_iload_n C dX6_flash_1 rfl rfl ?_
  obtain ⟨g2, hw⟩ := hw
  refine r_callV (As := [.int p0]) (st := []) C (m_X6_isCar hl hw) v_X6_isCar w_943 K8 g2 (by decide) ob8 rfl ⟨leb rfl, leb rfl⟩ ⟨leb rfl, leb rfl⟩ rfl (leb rfl) dX6_flash_2 (fun _ _ z => z.elim) (kpI (K := fun hK sK => WS E p l e (rmOf 2 0 0 43) s m args below meth c 6 (vx_MQ below (qcP E (poI post)) (xcP E (pxN)) args s 0 0 (bsA E)) hK (0 + 0) (0 + 0) (2 + 3) [(0, .ref this), (1, .int p0), (2, .int p1)] sK) (fun x1 hv => ?_))
  replace hw := hv
  clear hv
  replace hw := hw (fun (t21_0 : Int32) => WS E p l e (rmOf 2 0 0 43) s m args below meth c 6 (vx_MQ below (qcP E (poI post)) (xcP E (pxN)) args s 0 0 (bsA E)) h 0 0 21 [(0, .ref this), (1, .int p0), (2, .int p1)] [.int t21_0]) (by
    intro t21_0 hv
    replace hw := hv
    clear hv
    refine r_istore_n C dX6_flash_21 rfl (by decide) [(0, .ref this), (1, .int p0), (2, .int p1), (3, .int t21_0)] ⟨rfl, rfl, rfl, rfl, trivial⟩ ?_
    refine r_iload_n C dX6_flash_22 rfl rfl ?_
    replace hw := hw (fun (t51_0 : Int32) => WS E p l e (rmOf 2 0 0 43) s m args below meth c 6 (vx_MQ below (qcP E (poI post)) (xcP E (pxN)) args s 0 0 (bsA E)) h 0 0 51 [(0, .ref this), (1, .int p0), (2, .int p1), (3, .int t21_0)] [.int t51_0]) (by
      intro t51_0 hv
      replace hw := hv
      clear hv
      refine r_istore C dX6_flash_51 (by decide) [(0, .ref this), (1, .int p0), (2, .int p1), (3, .int t21_0), (4, .int t51_0)] ⟨rfl, rfl, rfl, rfl, rfl, trivial⟩ ?_
      refine r_aload_n C dX6_flash_53 rfl rfl ?_
      refine r_iload_n C dX6_flash_54 rfl rfl ?_
      replace hw := hw (fun (t72_0 : Int32) => WS E p l e (rmOf 2 0 0 43) s m args below meth c 6 (vx_MQ below (qcP E (poI post)) (xcP E (pxN)) args s 0 0 (bsA E)) h 0 0 72 [(0, .ref this), (1, .int p0), (2, .int p1)] [.int t72_0, .ref this]) (by
        intro t72_0 hv
        replace hw := hv
        clear hv
        refine r_callV (As := [.int t72_0]) (st := []) C (m_X6_goesWell hl hw) v_X6_goesWell w_919 K8 g2 (by decide) ob8 rfl ⟨leb rfl, leb rfl⟩ ⟨leb rfl, leb rfl⟩ rfl (leb rfl) dX6_flash_72 (fun _ _ z => z.elim) (kkI (K := fun hK sK => WS E p l e (rmOf 2 0 0 43) s m args below meth c 6 (vx_MQ below (qcP E (poI post)) (xcP E (pxN)) args s 0 0 (bsA E)) hK (0 + 0) (0 + 0) (72 + 3) [(0, .ref this), (1, .int p0), (2, .int p1)] sK) (fun x3 h3 hv => ?_))
        replace hw := hv
        clear hv
        refine r_if_ne C 80 dX6_flash_75 (by decide) (fun z4 => ?_) (fun z4 => ?_)
        · replace hw := hw.2 z4
          refine r_aload_n C dX6_flash_80 rfl rfl ?_
          obtain ⟨g5, hw⟩ := hw
          obtain ⟨a6, e6, hw⟩ := hw
          refine r_getA C K8 ob8 g5 (by decide) 15 (by decide) w_828 (fun _ z => z) e6 rfl dX6_flash_81 ?_
          refine r_iload_n C dX6_flash_84 rfl rfl ?_
          obtain ⟨g7, hw⟩ := hw
          obtain ⟨j8, f8, l8, k8, hw⟩ := hw
          obtain ⟨x9, e9, hw⟩ := hw
          refine a_I C g7 f8 l8 k8 e9 dX6_flash_85 ?_
          refine r_iconst (v := (1 : Int32)) C dX6_flash_86 (by decide) ?_
          refine r_isub C dX6_flash_87 ?_
          refine r_istore C dX6_flash_88 (by decide) [(0, .ref this), (1, .int p0), (2, .int p1), (5, .int (x9 - (1 : Int32)))] ⟨rfl, rfl, rfl, rfl, trivial⟩ ?_
          refine r_aload_n C dX6_flash_90 rfl rfl ?_
          obtain ⟨a10, e10, hw⟩ := hw
          refine r_getA C K8 ob8 g5 (by decide) 15 (by decide) w_828 (fun _ z => z) e10 rfl dX6_flash_91 ?_
          refine r_iload_n C dX6_flash_94 rfl rfl ?_
          refine r_iload_n C dX6_flash_95 rfl rfl ?_
          refine r_iconst (v := (1 : Int32)) C dX6_flash_96 (by decide) ?_
          refine r_iadd C dX6_flash_97 ?_
          obtain ⟨g11, hw⟩ := hw
          obtain ⟨j12, f12, l12, k12, hw⟩ := hw
          obtain ⟨h13, eh13⟩ : ∃ z, z = sI h3 a10 j12 (p1 + (1 : Int32)) := ⟨_, rfl⟩
          replace hw := hw h13 eh13
          refine s_I C g11 f12 l12 k12 dX6_flash_98 eh13 ?_
          refine r_aload_n C dX6_flash_99 rfl rfl ?_
          have g14 : hT h13 this = 8 := by rw [eh13]; exact g5
          obtain ⟨a15, e15, hw⟩ := hw
          refine r_getA C K8 ob8 g14 (by decide) 16 (by decide) w_829 (fun _ z => z) e15 rfl dX6_flash_100 ?_
          refine r_iload_n C dX6_flash_103 rfl rfl ?_
          refine r_iconst (v := (0 : Int32)) C dX6_flash_104 (by decide) ?_
          obtain ⟨g16, hw⟩ := hw
          obtain ⟨j17, f17, l17, k17, hw⟩ := hw
          obtain ⟨h18, eh18⟩ : ∃ z, z = sI h13 a15 j17 (0 : Int32) := ⟨_, rfl⟩
          replace hw := hw h18 eh18
          refine s_B C g16 f17 l17 k17 (Or.inl rfl) dX6_flash_105 eh18 ?_
          refine r_aload_n C dX6_flash_106 rfl rfl ?_
          have g19 : hT h18 this = 8 := by rw [eh18]; exact g14
          obtain ⟨a20, e20, hw⟩ := hw
          refine r_getA C K8 ob8 g19 (by decide) 17 (by decide) w_830 (fun _ z => z) e20 rfl dX6_flash_107 ?_
          refine r_iload_n C dX6_flash_110 rfl rfl ?_
          refine r_iconst (v := (0 : Int32)) C dX6_flash_111 (by decide) ?_
          obtain ⟨g21, hw⟩ := hw
          obtain ⟨j22, f22, l22, k22, hw⟩ := hw
          obtain ⟨h23, eh23⟩ : ∃ z, z = sI h18 a20 j22 (0 : Int32) := ⟨_, rfl⟩
          replace hw := hw h23 eh23
          refine s_B C g21 f22 l22 k22 (Or.inl rfl) dX6_flash_112 eh23 ?_
          refine r_iload C dX6_flash_113 rfl ?_
          exact r_iret C dX6_flash_115 (by decide) (by decide) ⟨_, rfl, hw⟩
        · replace hw := hw.1 z4
          refine r_iconst (v := (0 : Int32)) C dX6_flash_78 (by decide) ?_
          exact r_iret C dX6_flash_79 (by decide) (by decide) ⟨_, rfl, hw⟩
        )
      refine r_if_ne C 62 dX6_flash_55 (by decide) (fun z24 => ?_) (fun z24 => ?_)
      · replace hw := hw.2 z24
        refine r_iload C dX6_flash_62 rfl ?_
        refine r_if_eq C 71 dX6_flash_64 (by decide) (fun z25 => ?_) (fun z25 => ?_)
        · replace hw := hw.1 z25
          refine r_iconst (v := (2 : Int32)) C dX6_flash_71 (by decide) ?_
          exact (r_subk hw ⟨rfl, rfl, rfl, trivial⟩)
        · replace hw := hw.2 z25
          refine r_iconst (v := (0 : Int32)) C dX6_flash_67 (by decide) ?_
          refine r_goto C 72 dX6_flash_68 (by decide) ?_
          exact (r_subk hw ⟨rfl, rfl, rfl, trivial⟩)
      · replace hw := hw.1 z24
        refine r_iconst (v := (1 : Int32)) C dX6_flash_58 (by decide) ?_
        refine r_goto C 72 dX6_flash_59 (by decide) ?_
        exact (r_subk hw ⟨rfl, rfl, rfl, trivial⟩)
      )
    replace hw := hw (WS E p l e (rmOf 2 0 0 43) s m args below meth c 6 (vx_MQ below (qcP E (poI post)) (xcP E (pxN)) args s 0 0 (bsA E)) h 0 0 50 [(0, .ref this), (1, .int p0), (2, .int p1), (3, .int t21_0)] []) (by
      intro hv
      replace hw := hv
      clear hv
      refine r_iconst (v := (0 : Int32)) C dX6_flash_50 (by decide) ?_
      exact (r_subk hw ⟨rfl, rfl, rfl, rfl, trivial⟩)
      )
    refine r_if_eq C 50 dX6_flash_23 (by decide) (fun z26 => ?_) (fun z26 => ?_)
    · replace hw := hw.1 z26
      exact (r_subk hw ⟨rfl, rfl, rfl, rfl, trivial⟩)
    · replace hw := hw.2 z26
      refine r_aload_n C dX6_flash_26 rfl rfl ?_
      obtain ⟨a27, e27, hw⟩ := hw
      refine r_getA C K8 ob8 g2 (by decide) 12 (by decide) w_825 (fun _ z => z) e27 rfl dX6_flash_27 ?_
      refine r_iload_n C dX6_flash_30 rfl rfl ?_
      obtain ⟨g28, hw⟩ := hw
      obtain ⟨j29, f29, l29, k29, hw⟩ := hw
      obtain ⟨x30, e30, hw⟩ := hw
      refine a_I C g28 f29 l29 k29 e30 dX6_flash_31 ?_
      refine r_iconst (v := (1 : Int32)) C dX6_flash_32 (by decide) ?_
      refine r_icmp_ne C 50 dX6_flash_33 (by decide) (fun z31 => ?_) (fun z31 => ?_)
      · replace hw := hw.2 z31
        exact (r_subk hw ⟨rfl, rfl, rfl, rfl, trivial⟩)
      · replace hw := hw.1 z31
        refine r_aload_n C dX6_flash_36 rfl rfl ?_
        obtain ⟨a32, e32, hw⟩ := hw
        refine r_getA C K8 ob8 g2 (by decide) 13 (by decide) w_826 (fun _ z => z) e32 rfl dX6_flash_37 ?_
        refine r_iload_n C dX6_flash_40 rfl rfl ?_
        obtain ⟨g33, hw⟩ := hw
        obtain ⟨j34, f34, l34, k34, hw⟩ := hw
        obtain ⟨x35, e35, hw⟩ := hw
        refine a_I C g33 f34 l34 k34 e35 dX6_flash_41 ?_
        refine r_iconst (v := (5 : Int32)) C dX6_flash_42 (by decide) ?_
        refine r_icmp_lt C 50 dX6_flash_43 (by decide) (fun z36 => ?_) (fun z36 => ?_)
        · replace hw := hw.1 z36
          exact (r_subk hw ⟨rfl, rfl, rfl, rfl, trivial⟩)
        · replace hw := hw.2 z36
          refine r_iconst (v := (1 : Int32)) C dX6_flash_46 (by decide) ?_
          refine r_goto C 51 dX6_flash_47 (by decide) ?_
          exact (r_subk hw ⟨rfl, rfl, rfl, rfl, trivial⟩)
    )
  replace hw := hw (WS E p l e (rmOf 2 0 0 43) s m args below meth c 6 (vx_MQ below (qcP E (poI post)) (xcP E (pxN)) args s 0 0 (bsA E)) h 0 0 20 [(0, .ref this), (1, .int p0), (2, .int p1)] []) (by
    intro hv
    replace hw := hv
    clear hv
    refine r_iconst (v := (0 : Int32)) C dX6_flash_20 (by decide) ?_
    exact (r_subk hw ⟨rfl, rfl, rfl, trivial⟩)
    )
  refine r_if_eq C 20 dX6_flash_5 (by decide) (fun z37 => ?_) (fun z37 => ?_)
  · replace hw := hw.1 z37
    exact (r_subk hw ⟨rfl, rfl, rfl, trivial⟩)
  · replace hw := hw.2 z37
    refine r_aload_n C dX6_flash_8 rfl rfl ?_
    refine r_iload_n C dX6_flash_9 rfl rfl ?_
    refine r_callV (As := [.int p1]) (st := []) C (m_X6_isImage hl hw) v_X6_isImage w_992 K8 g2 (by decide) ob8 rfl ⟨leb rfl, leb rfl⟩ ⟨leb rfl, leb rfl⟩ rfl (leb rfl) dX6_flash_10 (fun _ _ z => z.elim) (kpI (K := fun hK sK => WS E p l e (rmOf 2 0 0 43) s m args below meth c 6 (vx_MQ below (qcP E (poI post)) (xcP E (pxN)) args s 0 0 (bsA E)) hK (0 + 0) (0 + 0) (10 + 3) [(0, .ref this), (1, .int p0), (2, .int p1)] sK) (fun x38 hv => ?_))
    replace hw := hv
    clear hv
    refine r_if_eq C 20 dX6_flash_13 (by decide) (fun z39 => ?_) (fun z39 => ?_)
    · replace hw := hw.1 z39
      exact (r_subk hw ⟨rfl, rfl, rfl, trivial⟩)
    · replace hw := hw.2 z39
      refine r_iconst (v := (1 : Int32)) C dX6_flash_16 (by decide) ?_
      refine r_goto C 21 dX6_flash_17 (by decide) ?_
      exact (r_subk hw ⟨rfl, rfl, rfl, trivial⟩)
theorem v_X6_flash : MV yX6_flash cX6_flash 6 (some .int) 2 := ⟨w_999, w_997, w_998, w_60, ⟨by decide +kernel, by decide +kernel, by decide +kernel⟩⟩

def wp_X6_imageOf (h : Hp) (this : Nat) (p0 : Int32) (post : Int32 → Hp → Prop) : Prop :=
(hT h this = 8 ∧
 wp_X6_isCar h this p0 (fun x1 =>
 (∀ J14 : Int32 → Prop, (∀ (t14_0 : Int32), (wp_X6_goesWell h this t14_0 (fun x3 h3 =>
 (∀ J32 : Int32 → Prop, (∀ (t32_0 : Int32), (post t32_0 h3) → J32 t32_0) →
 ((x3 = 0 →
 J32 (0 : Int32)) ∧ (¬ (x3 = 0) →
 (hT h3 this = 8 ∧
 (∃ a6 : Nat, hR h3 this 15 = some a6 ∧
 (hT h3 a6 = 20 ∧
 (∃ j8 : Nat, p0 = nI j8 ∧ j8 < 2147483648 ∧ j8 < hL h3 a6 ∧
 (∃ x9 : Int32, hI h3 a6 j8 = x9 ∧
 J32 (x9 - (1 : Int32)))))))))))) → J14 t14_0) →
 ((x1 = 0 →
 J14 (1 : Int32)) ∧ (¬ (x1 = 0) →
 J14 (0 : Int32))))))
set_option maxHeartbeats 4000000 in
set_option maxRecDepth 100000 in
theorem m_X6_imageOf {E : Ev} {l : Launch} (hl : l.stackTraces = false) {h : Hp} {this : Nat} {p0 : Int32} {post : Int32 → Hp → Prop} (hw : wp_X6_imageOf h this p0 post) : MT E l yX6_imageOf cX6_imageOf 2 (some .int) 2 43 0 0 h [.ref this, .int p0] (poI post) (pxN) := by
  refine MT.of (by decide) hl (Nat.le_of_ble_eq_true rfl) (fun p e s m args below meth c C => ?_)
  unfold wp_X6_imageOf at hw
  have C : CX E p l s m args meth c cX6_imageOf 2 "TaktLineModel" "imageOf" (some .int) [] := C
  show WS E p l e (rmOf 2 0 0 43) s m args below meth c 2 (vx_MQ below (qcP E (poI post)) (xcP E (pxN)) args s 0 0 (bsA E)) h 0 0 0 [(0, .ref this), (1, .int p0)] []
  refine r_aload_n C dX6_imageOf_0 rfl rfl ?_
  refine r_aload_n C dX6_imageOf_1 rfl rfl ?_
  refine r_iload_n C dX6_imageOf_2 rfl rfl ?_
  obtain ⟨g2, hw⟩ := hw
  refine r_callV (As := [.int p0]) (st := [.ref this]) C (m_X6_isCar hl hw) v_X6_isCar w_943 K8 g2 (by decide) ob8 rfl ⟨leb rfl, leb rfl⟩ ⟨leb rfl, leb rfl⟩ rfl (leb rfl) dX6_imageOf_3 (fun _ _ z => z.elim) (kpI (K := fun hK sK => WS E p l e (rmOf 2 0 0 43) s m args below meth c 2 (vx_MQ below (qcP E (poI post)) (xcP E (pxN)) args s 0 0 (bsA E)) hK (0 + 0) (0 + 0) (3 + 3) [(0, .ref this), (1, .int p0)] sK) (fun x1 hv => ?_))
  replace hw := hv
  clear hv
  replace hw := hw (fun (t14_0 : Int32) => WS E p l e (rmOf 2 0 0 43) s m args below meth c 2 (vx_MQ below (qcP E (poI post)) (xcP E (pxN)) args s 0 0 (bsA E)) h 0 0 14 [(0, .ref this), (1, .int p0)] [.int t14_0, .ref this]) (by
    intro t14_0 hv
    replace hw := hv
    clear hv
    refine r_callV (As := [.int t14_0]) (st := []) C (m_X6_goesWell hl hw) v_X6_goesWell w_919 K8 g2 (by decide) ob8 rfl ⟨leb rfl, leb rfl⟩ ⟨leb rfl, leb rfl⟩ rfl (leb rfl) dX6_imageOf_14 (fun _ _ z => z.elim) (kkI (K := fun hK sK => WS E p l e (rmOf 2 0 0 43) s m args below meth c 2 (vx_MQ below (qcP E (poI post)) (xcP E (pxN)) args s 0 0 (bsA E)) hK (0 + 0) (0 + 0) (14 + 3) [(0, .ref this), (1, .int p0)] sK) (fun x3 h3 hv => ?_))
    replace hw := hv
    clear hv
    replace hw := hw (fun (t32_0 : Int32) => WS E p l e (rmOf 2 0 0 43) s m args below meth c 2 (vx_MQ below (qcP E (poI post)) (xcP E (pxN)) args s 0 0 (bsA E)) h3 0 0 32 [] [.int t32_0]) (by
      intro t32_0 hv
      replace hw := hv
      clear hv
      exact r_iret C dX6_imageOf_32 (by decide) (by decide) ⟨_, rfl, hw⟩
      )
    refine r_if_eq C 31 dX6_imageOf_17 (by decide) (fun z4 => ?_) (fun z4 => ?_)
    · replace hw := hw.1 z4
      refine r_iconst (v := (0 : Int32)) C dX6_imageOf_31 (by decide) ?_
      exact (r_subk hw trivial)
    · replace hw := hw.2 z4
      refine r_aload_n C dX6_imageOf_20 rfl rfl ?_
      obtain ⟨g5, hw⟩ := hw
      obtain ⟨a6, e6, hw⟩ := hw
      refine r_getA C K8 ob8 g5 (by decide) 15 (by decide) w_828 (fun _ z => z) e6 rfl dX6_imageOf_21 ?_
      refine r_iload_n C dX6_imageOf_24 rfl rfl ?_
      obtain ⟨g7, hw⟩ := hw
      obtain ⟨j8, f8, l8, k8, hw⟩ := hw
      obtain ⟨x9, e9, hw⟩ := hw
      refine a_I C g7 f8 l8 k8 e9 dX6_imageOf_25 ?_
      refine r_iconst (v := (1 : Int32)) C dX6_imageOf_26 (by decide) ?_
      refine r_isub C dX6_imageOf_27 ?_
      refine r_goto C 32 dX6_imageOf_28 (by decide) ?_
      exact (r_subk hw trivial)
    )
  refine r_if_eq C 13 dX6_imageOf_6 (by decide) (fun z10 => ?_) (fun z10 => ?_)
  · replace hw := hw.1 z10
    refine r_iconst (v := (1 : Int32)) C dX6_imageOf_13 (by decide) ?_
    exact (r_subk hw ⟨rfl, rfl, trivial⟩)
  · replace hw := hw.2 z10
    refine r_iconst (v := (0 : Int32)) C dX6_imageOf_9 (by decide) ?_
    refine r_goto C 14 dX6_imageOf_10 (by decide) ?_
    exact (r_subk hw ⟨rfl, rfl, trivial⟩)
theorem v_X6_imageOf : MV yX6_imageOf cX6_imageOf 2 (some .int) 1 := ⟨w_1003, w_1001, w_1002, w_60, ⟨by decide +kernel, by decide +kernel, by decide +kernel⟩⟩

def wp_X6_versionIn (h : Hp) (this : Nat) (p0 : Int32) (p1 : Int32) (post : Int32 → Hp → Prop) : Prop :=
(hT h this = 8 ∧
 wp_X6_isImage h this p0 (fun x1 =>
 (∀ J21 : Int32 → Prop, (∀ (t21_0 : Int32), (wp_X6_goesWell h this t21_0 (fun x3 h3 =>
 (∀ J42 : Int32 → Prop, (∀ (t42_0 : Int32), (post t42_0 h3) → J42 t42_0) →
 ((x3 = 0 →
 J42 (0 : Int32)) ∧ (¬ (x3 = 0) →
 (hT h3 this = 8 ∧
 (∃ a6 : Nat, hR h3 this 24 = some a6 ∧
 (hT h3 a6 = 20 ∧
 (∃ j8 : Nat, ((10 : Int32) * p0) + p1 = nI j8 ∧ j8 < 2147483648 ∧ j8 < hL h3 a6 ∧
 (∃ x9 : Int32, hI h3 a6 j8 = x9 ∧
 J42 x9)))))))))) → J21 t21_0) →
 (∀ J20 : Prop, ((J21 (1 : Int32)) → J20) →
 ((x1 = 0 →
 J20) ∧ (¬ (x1 = 0) →
 wp_X6_isKind h p1 (fun x11 =>
 ((x11 = 0 →
 J20) ∧ (¬ (x11 = 0) →
 J21 (0 : Int32))))))))))
set_option maxHeartbeats 4000000 in
set_option maxRecDepth 100000 in
theorem m_X6_versionIn {E : Ev} {l : Launch} (hl : l.stackTraces = false) {h : Hp} {this : Nat} {p0 : Int32} {p1 : Int32} {post : Int32 → Hp → Prop} (hw : wp_X6_versionIn h this p0 p1 post) : MT E l yX6_versionIn cX6_versionIn 3 (some .int) 2 43 0 0 h [.ref this, .int p0, .int p1] (poI post) (pxN) := by
  refine MT.of (by decide) hl (Nat.le_of_ble_eq_true rfl) (fun p e s m args below meth c C => ?_)
  unfold wp_X6_versionIn at hw
  have C : CX E p l s m args meth c cX6_versionIn 3 "TaktLineModel" "versionIn" (some .int) [] := C
  show WS E p l e (rmOf 2 0 0 43) s m args below meth c 3 (vx_MQ below (qcP E (poI post)) (xcP E (pxN)) args s 0 0 (bsA E)) h 0 0 0 [(0, .ref this), (1, .int p0), (2, .int p1)] []
  refine r_aload_n C dX6_versionIn_0 rfl rfl ?_
  refine r_aload_n C dX6_versionIn_1 rfl rfl ?_
  refine r_iload_n C dX6_versionIn_2 rfl rfl ?_
  obtain ⟨g2, hw⟩ := hw
  refine r_callV (As := [.int p0]) (st := [.ref this]) C (m_X6_isImage hl hw) v_X6_isImage w_992 K8 g2 (by decide) ob8 rfl ⟨leb rfl, leb rfl⟩ ⟨leb rfl, leb rfl⟩ rfl (leb rfl) dX6_versionIn_3 (fun _ _ z => z.elim) (kpI (K := fun hK sK => WS E p l e (rmOf 2 0 0 43) s m args below meth c 3 (vx_MQ below (qcP E (poI post)) (xcP E (pxN)) args s 0 0 (bsA E)) hK (0 + 0) (0 + 0) (3 + 3) [(0, .ref this), (1, .int p0), (2, .int p1)] sK) (fun x1 hv => ?_))
  replace hw := hv
  clear hv
  replace hw := hw (fun (t21_0 : Int32) => WS E p l e (rmOf 2 0 0 43) s m args below meth c 3 (vx_MQ below (qcP E (poI post)) (xcP E (pxN)) args s 0 0 (bsA E)) h 0 0 21 [(0, .ref this), (1, .int p0), (2, .int p1)] [.int t21_0, .ref this]) (by
    intro t21_0 hv
    replace hw := hv
    clear hv
    refine r_callV (As := [.int t21_0]) (st := []) C (m_X6_goesWell hl hw) v_X6_goesWell w_919 K8 g2 (by decide) ob8 rfl ⟨leb rfl, leb rfl⟩ ⟨leb rfl, leb rfl⟩ rfl (leb rfl) dX6_versionIn_21 (fun _ _ z => z.elim) (kkI (K := fun hK sK => WS E p l e (rmOf 2 0 0 43) s m args below meth c 3 (vx_MQ below (qcP E (poI post)) (xcP E (pxN)) args s 0 0 (bsA E)) hK (0 + 0) (0 + 0) (21 + 3) [(0, .ref this), (1, .int p0), (2, .int p1)] sK) (fun x3 h3 hv => ?_))
    replace hw := hv
    clear hv
    replace hw := hw (fun (t42_0 : Int32) => WS E p l e (rmOf 2 0 0 43) s m args below meth c 3 (vx_MQ below (qcP E (poI post)) (xcP E (pxN)) args s 0 0 (bsA E)) h3 0 0 42 [] [.int t42_0]) (by
      intro t42_0 hv
      replace hw := hv
      clear hv
      exact r_iret C dX6_versionIn_42 (by decide) (by decide) ⟨_, rfl, hw⟩
      )
    refine r_if_eq C 41 dX6_versionIn_24 (by decide) (fun z4 => ?_) (fun z4 => ?_)
    · replace hw := hw.1 z4
      refine r_iconst (v := (0 : Int32)) C dX6_versionIn_41 (by decide) ?_
      exact (r_subk hw trivial)
    · replace hw := hw.2 z4
      refine r_aload_n C dX6_versionIn_27 rfl rfl ?_
      obtain ⟨g5, hw⟩ := hw
      obtain ⟨a6, e6, hw⟩ := hw
      refine r_getA C K8 ob8 g5 (by decide) 24 (by decide) w_837 (fun _ z => z) e6 rfl dX6_versionIn_28 ?_
      refine r_bipush (v := (10 : Int32)) C dX6_versionIn_31 (by decide) ?_
      refine r_iload_n C dX6_versionIn_33 rfl rfl ?_
      refine r_imul C dX6_versionIn_34 ?_
      refine r_iload_n C dX6_versionIn_35 rfl rfl ?_
      refine r_iadd C dX6_versionIn_36 ?_
      obtain ⟨g7, hw⟩ := hw
      obtain ⟨j8, f8, l8, k8, hw⟩ := hw
      obtain ⟨x9, e9, hw⟩ := hw
      refine a_I C g7 f8 l8 k8 e9 dX6_versionIn_37 ?_
      refine r_goto C 42 dX6_versionIn_38 (by decide) ?_
      exact (r_subk hw trivial)
    )
  replace hw := hw (WS E p l e (rmOf 2 0 0 43) s m args below meth c 3 (vx_MQ below (qcP E (poI post)) (xcP E (pxN)) args s 0 0 (bsA E)) h 0 0 20 [(0, .ref this), (1, .int p0), (2, .int p1)] [.ref this]) (by
    intro hv
    replace hw := hv
    clear hv
    refine r_iconst (v := (1 : Int32)) C dX6_versionIn_20 (by decide) ?_
    exact (r_subk hw ⟨rfl, rfl, rfl, trivial⟩)
    )
  refine r_if_eq C 20 dX6_versionIn_6 (by decide) (fun z10 => ?_) (fun z10 => ?_)
  · replace hw := hw.1 z10
    exact (r_subk hw ⟨rfl, rfl, rfl, trivial⟩)
  · replace hw := hw.2 z10
    refine r_iload_n C dX6_versionIn_9 rfl rfl ?_
    refine r_callS (As := [.int p1]) (st := [.ref this]) C (m_X6_isKind hl hw) v_X6_isKind w_916 rfl ⟨leb rfl, leb rfl⟩ ⟨leb rfl, leb rfl⟩ rfl (leb rfl) dX6_versionIn_10 (fun _ _ z => z.elim) (kpI (K := fun hK sK => WS E p l e (rmOf 2 0 0 43) s m args below meth c 3 (vx_MQ below (qcP E (poI post)) (xcP E (pxN)) args s 0 0 (bsA E)) hK (0 + 0) (0 + 0) (10 + 3) [(0, .ref this), (1, .int p0), (2, .int p1)] sK) (fun x11 hv => ?_))
    replace hw := hv
    clear hv
    refine r_if_eq C 20 dX6_versionIn_13 (by decide) (fun z12 => ?_) (fun z12 => ?_)
    · replace hw := hw.1 z12
      exact (r_subk hw ⟨rfl, rfl, rfl, trivial⟩)
    · replace hw := hw.2 z12
      refine r_iconst (v := (0 : Int32)) C dX6_versionIn_16 (by decide) ?_
      refine r_goto C 21 dX6_versionIn_17 (by decide) ?_
      exact (r_subk hw ⟨rfl, rfl, rfl, trivial⟩)
theorem v_X6_versionIn : MV yX6_versionIn cX6_versionIn 3 (some .int) 2 := ⟨w_1007, w_1005, w_1006, w_60, ⟨by decide +kernel, by decide +kernel, by decide +kernel⟩⟩

def wp_X6_images (h : Hp) (this : Nat) (post : Int32 → Hp → Prop) : Prop :=
(hT h this = 8 ∧
 (∀ h2, h2 = sI h this 0 (0 : Int32) →
 (∃ x4 : Int32, hI h2 this 23 = x4 ∧
 post x4 h2)))
set_option maxHeartbeats 4000000 in
set_option maxRecDepth 100000 in
theorem m_X6_images {E : Ev} {l : Launch} (hl : l.stackTraces = false) {h : Hp} {this : Nat} {post : Int32 → Hp → Prop} (hw : wp_X6_images h this post) : MT E l yX6_images cX6_images 1 (some .int) 0 0 0 0 h [.ref this] (poI post) (pxN) := by
  refine MT.of (by decide) hl (Nat.le_of_ble_eq_true rfl) (fun p e s m args below meth c C => ?_)
  unfold wp_X6_images at hw
  have C : CX E p l s m args meth c cX6_images 1 "TaktLineModel" "images" (some .int) [] := C
  show WS E p l e (rmOf 0 0 0 0) s m args below meth c 1 (vx_MQ below (qcP E (poI post)) (xcP E (pxN)) args s 0 0 (bsA E)) h 0 0 0 [(0, .ref this)] []
  refine r_aload_n C dX6_images_0 rfl rfl ?_
  refine r_iconst (v := (0 : Int32)) C dX6_images_1 (by decide) ?_
  obtain ⟨g1, hw⟩ := hw
  obtain ⟨h2, eh2⟩ : ∃ z, z = sI h this 0 (0 : Int32) := ⟨_, rfl⟩
  replace hw := hw h2 eh2
  refine p_I C K8 ob8 g1 (by decide) 0 (by decide) w_813 (fun _ z => z) rfl (by decide +kernel) (Nat.le_of_ble_eq_true rfl) rfl dX6_images_2 eh2 ?_
  refine r_aload_n C dX6_images_5 rfl rfl ?_
  have g3 : hT h2 this = 8 := by rw [eh2]; exact g1
  obtain ⟨x4, e4, hw⟩ := hw
  refine r_getI C K8 ob8 g3 (by decide) 23 (by decide) w_836 (fun _ z => z) e4 rfl dX6_images_6 ?_
  exact r_iret C dX6_images_9 (by decide) (by decide) ⟨_, rfl, hw⟩
theorem v_X6_images : MV yX6_images cX6_images 1 (some .int) 0 := ⟨w_1011, w_1009, w_1010, w_60, ⟨by decide +kernel, by decide +kernel, by decide +kernel⟩⟩

def wp_X6_isFit (h : Hp) (this : Nat) (p0 : Int32) (post : Int32 → Hp → Prop) : Prop :=
(hT h this = 8 ∧
 wp_X6_isCar h this p0 (fun x1 =>
 (∀ J14 : Int32 → Prop, (∀ (t14_0 : Int32), (wp_X6_goesWell h this t14_0 (fun x3 h3 =>
 (∀ J33 : Int32 → Hp → Prop, (∀ (t33_0 : Int32) (h33_ : Hp), (b01 t33_0 ∧
 post t33_0 h33_) → J33 t33_0 h33_) →
 (∀ J32 : Hp → Prop, (∀ (h32_ : Hp), (J33 (0 : Int32) h32_) → J32 h32_) →
 ((x3 = 0 →
 J32 h3) ∧ (¬ (x3 = 0) →
 (hT h3 this = 8 ∧
 wp_X6_fits h3 this p0 (fun x6 h6 =>
 ((x6 = 0 →
 J32 h6) ∧ (¬ (x6 = 0) →
 J33 (1 : Int32) h6)))))))))) → J14 t14_0) →
 ((x1 = 0 →
 J14 (1 : Int32)) ∧ (¬ (x1 = 0) →
 J14 (0 : Int32))))))
set_option maxHeartbeats 4000000 in
set_option maxRecDepth 100000 in
theorem m_X6_isFit {E : Ev} {l : Launch} (hl : l.stackTraces = false) {h : Hp} {this : Nat} {p0 : Int32} {post : Int32 → Hp → Prop} (hw : wp_X6_isFit h this p0 post) : MT E l yX6_isFit cX6_isFit 2 (some .boolean) 3 68 0 0 h [.ref this, .int p0] (poI post) (pxN) := by
  refine MT.of (by decide) hl (Nat.le_of_ble_eq_true rfl) (fun p e s m args below meth c C => ?_)
  unfold wp_X6_isFit at hw
  have C : CX E p l s m args meth c cX6_isFit 2 "TaktLineModel" "isFit" (some .boolean) [] := C
  show WS E p l e (rmOf 3 0 0 68) s m args below meth c 2 (vx_MQ below (qcP E (poI post)) (xcP E (pxN)) args s 0 0 (bsA E)) h 0 0 0 [(0, .ref this), (1, .int p0)] []
  refine r_aload_n C dX6_isFit_0 rfl rfl ?_
  refine r_aload_n C dX6_isFit_1 rfl rfl ?_
  refine r_iload_n C dX6_isFit_2 rfl rfl ?_
  obtain ⟨g2, hw⟩ := hw
  refine r_callV (As := [.int p0]) (st := [.ref this]) C (m_X6_isCar hl hw) v_X6_isCar w_943 K8 g2 (by decide) ob8 rfl ⟨leb rfl, leb rfl⟩ ⟨leb rfl, leb rfl⟩ rfl (leb rfl) dX6_isFit_3 (fun _ _ z => z.elim) (kpI (K := fun hK sK => WS E p l e (rmOf 3 0 0 68) s m args below meth c 2 (vx_MQ below (qcP E (poI post)) (xcP E (pxN)) args s 0 0 (bsA E)) hK (0 + 0) (0 + 0) (3 + 3) [(0, .ref this), (1, .int p0)] sK) (fun x1 hv => ?_))
  replace hw := hv
  clear hv
  replace hw := hw (fun (t14_0 : Int32) => WS E p l e (rmOf 3 0 0 68) s m args below meth c 2 (vx_MQ below (qcP E (poI post)) (xcP E (pxN)) args s 0 0 (bsA E)) h 0 0 14 [(0, .ref this), (1, .int p0)] [.int t14_0, .ref this]) (by
    intro t14_0 hv
    replace hw := hv
    clear hv
    refine r_callV (As := [.int t14_0]) (st := []) C (m_X6_goesWell hl hw) v_X6_goesWell w_919 K8 g2 (by decide) ob8 rfl ⟨leb rfl, leb rfl⟩ ⟨leb rfl, leb rfl⟩ rfl (leb rfl) dX6_isFit_14 (fun _ _ z => z.elim) (kkI (K := fun hK sK => WS E p l e (rmOf 3 0 0 68) s m args below meth c 2 (vx_MQ below (qcP E (poI post)) (xcP E (pxN)) args s 0 0 (bsA E)) hK (0 + 0) (0 + 0) (14 + 3) [(0, .ref this), (1, .int p0)] sK) (fun x3 h3 hv => ?_))
    replace hw := hv
    clear hv
    replace hw := hw (fun (t33_0 : Int32) (h33_ : Hp) => WS E p l e (rmOf 3 0 0 68) s m args below meth c 2 (vx_MQ below (qcP E (poI post)) (xcP E (pxN)) args s 0 0 (bsA E)) h33_ 0 0 33 [] [.int t33_0]) (by
      intro t33_0 h33_ hv
      replace hw := hv
      clear hv
      obtain ⟨y4, hw⟩ := hw
      exact r_zret C y4 dX6_isFit_33 (by decide) (by decide) ⟨_, rfl, hw⟩
      )
    replace hw := hw (fun (h32_ : Hp) => WS E p l e (rmOf 3 0 0 68) s m args below meth c 2 (vx_MQ below (qcP E (poI post)) (xcP E (pxN)) args s 0 0 (bsA E)) h32_ 0 0 32 [] []) (by
      intro h32_ hv
      replace hw := hv
      clear hv
      refine r_iconst (v := (0 : Int32)) C dX6_isFit_32 (by decide) ?_
      exact (r_subk hw trivial)
      )
    refine r_if_eq C 32 dX6_isFit_17 (by decide) (fun z5 => ?_) (fun z5 => ?_)
    · replace hw := hw.1 z5
      exact (r_subk hw trivial)
    · replace hw := hw.2 z5
      refine r_aload_n C dX6_isFit_20 rfl rfl ?_
      refine r_iload_n C dX6_isFit_21 rfl rfl ?_
      obtain ⟨g7, hw⟩ := hw
      refine r_callV (As := [.int p0]) (st := []) C (m_X6_fits hl hw) v_X6_fits w_1016 K8 g7 (by decide) ob8 rfl ⟨leb rfl, leb rfl⟩ ⟨leb rfl, leb rfl⟩ rfl (leb rfl) dX6_isFit_22 (fun _ _ z => z.elim) (kkI (K := fun hK sK => WS E p l e (rmOf 3 0 0 68) s m args below meth c 2 (vx_MQ below (qcP E (poI post)) (xcP E (pxN)) args s 0 0 (bsA E)) hK (0 + 0) (0 + 0) (22 + 3) [(0, .ref this), (1, .int p0)] sK) (fun x6 h6 hv => ?_))
      replace hw := hv
      clear hv
      refine r_if_eq C 32 dX6_isFit_25 (by decide) (fun z8 => ?_) (fun z8 => ?_)
      · replace hw := hw.1 z8
        exact (r_subk hw trivial)
      · replace hw := hw.2 z8
        refine r_iconst (v := (1 : Int32)) C dX6_isFit_28 (by decide) ?_
        refine r_goto C 33 dX6_isFit_29 (by decide) ?_
        exact (r_subk hw trivial)
    )
  refine r_if_eq C 13 dX6_isFit_6 (by decide) (fun z9 => ?_) (fun z9 => ?_)
  · replace hw := hw.1 z9
    refine r_iconst (v := (1 : Int32)) C dX6_isFit_13 (by decide) ?_
    exact (r_subk hw ⟨rfl, rfl, trivial⟩)
  · replace hw := hw.2 z9
    refine r_iconst (v := (0 : Int32)) C dX6_isFit_9 (by decide) ?_
    refine r_goto C 14 dX6_isFit_10 (by decide) ?_
    exact (r_subk hw ⟨rfl, rfl, trivial⟩)
theorem v_X6_isFit : MV yX6_isFit cX6_isFit 2 (some .boolean) 1 := ⟨w_1015, w_1013, w_1014, w_60, ⟨by decide +kernel, by decide +kernel, by decide +kernel⟩⟩

def wp_X6_isTested (h : Hp) (this : Nat) (p0 : Int32) (post : Int32 → Hp → Prop) : Prop :=
(hT h this = 8 ∧
 wp_X6_isCar h this p0 (fun x1 =>
 (∀ J14 : Int32 → Prop, (∀ (t14_0 : Int32), (wp_X6_goesWell h this t14_0 (fun x3 h3 =>
 (∀ J34 : Int32 → Prop, (∀ (t34_0 : Int32), (b01 t34_0 ∧
 post t34_0 h3) → J34 t34_0) →
 (∀ J33 : Prop, ((J34 (0 : Int32)) → J33) →
 ((x3 = 0 →
 J33) ∧ (¬ (x3 = 0) →
 (hT h3 this = 8 ∧
 (∃ a7 : Nat, hR h3 this 16 = some a7 ∧
 (hT h3 a7 = 21 ∧
 (∃ j9 : Nat, p0 = nI j9 ∧ j9 < 2147483648 ∧ j9 < hL h3 a7 ∧
 (∃ x10 : Int32, hI h3 a7 j9 = x10 ∧
 ((x10 = 0 →
 J33) ∧ (¬ (x10 = 0) →
 J34 (1 : Int32)))))))))))))) → J14 t14_0) →
 ((x1 = 0 →
 J14 (1 : Int32)) ∧ (¬ (x1 = 0) →
 J14 (0 : Int32))))))
set_option maxHeartbeats 4000000 in
set_option maxRecDepth 100000 in
theorem m_X6_isTested {E : Ev} {l : Launch} (hl : l.stackTraces = false) {h : Hp} {this : Nat} {p0 : Int32} {post : Int32 → Hp → Prop} (hw : wp_X6_isTested h this p0 post) : MT E l yX6_isTested cX6_isTested 2 (some .boolean) 2 43 0 0 h [.ref this, .int p0] (poI post) (pxN) := by
  refine MT.of (by decide) hl (Nat.le_of_ble_eq_true rfl) (fun p e s m args below meth c C => ?_)
  unfold wp_X6_isTested at hw
  have C : CX E p l s m args meth c cX6_isTested 2 "TaktLineModel" "isTested" (some .boolean) [] := C
  show WS E p l e (rmOf 2 0 0 43) s m args below meth c 2 (vx_MQ below (qcP E (poI post)) (xcP E (pxN)) args s 0 0 (bsA E)) h 0 0 0 [(0, .ref this), (1, .int p0)] []
  refine r_aload_n C dX6_isTested_0 rfl rfl ?_
  refine r_aload_n C dX6_isTested_1 rfl rfl ?_
  refine r_iload_n C dX6_isTested_2 rfl rfl ?_
  obtain ⟨g2, hw⟩ := hw
  refine r_callV (As := [.int p0]) (st := [.ref this]) C (m_X6_isCar hl hw) v_X6_isCar w_943 K8 g2 (by decide) ob8 rfl ⟨leb rfl, leb rfl⟩ ⟨leb rfl, leb rfl⟩ rfl (leb rfl) dX6_isTested_3 (fun _ _ z => z.elim) (kpI (K := fun hK sK => WS E p l e (rmOf 2 0 0 43) s m args below meth c 2 (vx_MQ below (qcP E (poI post)) (xcP E (pxN)) args s 0 0 (bsA E)) hK (0 + 0) (0 + 0) (3 + 3) [(0, .ref this), (1, .int p0)] sK) (fun x1 hv => ?_))
  replace hw := hv
  clear hv
  replace hw := hw (fun (t14_0 : Int32) => WS E p l e (rmOf 2 0 0 43) s m args below meth c 2 (vx_MQ below (qcP E (poI post)) (xcP E (pxN)) args s 0 0 (bsA E)) h 0 0 14 [(0, .ref this), (1, .int p0)] [.int t14_0, .ref this]) (by
    intro t14_0 hv
    replace hw := hv
    clear hv
    refine r_callV (As := [.int t14_0]) (st := []) C (m_X6_goesWell hl hw) v_X6_goesWell w_919 K8 g2 (by decide) ob8 rfl ⟨leb rfl, leb rfl⟩ ⟨leb rfl, leb rfl⟩ rfl (leb rfl) dX6_isTested_14 (fun _ _ z => z.elim) (kkI (K := fun hK sK => WS E p l e (rmOf 2 0 0 43) s m args below meth c 2 (vx_MQ below (qcP E (poI post)) (xcP E (pxN)) args s 0 0 (bsA E)) hK (0 + 0) (0 + 0) (14 + 3) [(0, .ref this), (1, .int p0)] sK) (fun x3 h3 hv => ?_))
    replace hw := hv
    clear hv
    replace hw := hw (fun (t34_0 : Int32) => WS E p l e (rmOf 2 0 0 43) s m args below meth c 2 (vx_MQ below (qcP E (poI post)) (xcP E (pxN)) args s 0 0 (bsA E)) h3 0 0 34 [] [.int t34_0]) (by
      intro t34_0 hv
      replace hw := hv
      clear hv
      obtain ⟨y4, hw⟩ := hw
      exact r_zret C y4 dX6_isTested_34 (by decide) (by decide) ⟨_, rfl, hw⟩
      )
    replace hw := hw (WS E p l e (rmOf 2 0 0 43) s m args below meth c 2 (vx_MQ below (qcP E (poI post)) (xcP E (pxN)) args s 0 0 (bsA E)) h3 0 0 33 [] []) (by
      intro hv
      replace hw := hv
      clear hv
      refine r_iconst (v := (0 : Int32)) C dX6_isTested_33 (by decide) ?_
      exact (r_subk hw trivial)
      )
    refine r_if_eq C 33 dX6_isTested_17 (by decide) (fun z5 => ?_) (fun z5 => ?_)
    · replace hw := hw.1 z5
      exact (r_subk hw trivial)
    · replace hw := hw.2 z5
      refine r_aload_n C dX6_isTested_20 rfl rfl ?_
      obtain ⟨g6, hw⟩ := hw
      obtain ⟨a7, e7, hw⟩ := hw
      refine r_getA C K8 ob8 g6 (by decide) 16 (by decide) w_829 (fun _ z => z) e7 rfl dX6_isTested_21 ?_
      refine r_iload_n C dX6_isTested_24 rfl rfl ?_
      obtain ⟨g8, hw⟩ := hw
      obtain ⟨j9, f9, l9, k9, hw⟩ := hw
      obtain ⟨x10, e10, hw⟩ := hw
      refine a_B C g8 f9 l9 k9 e10 dX6_isTested_25 ?_
      refine r_if_eq C 33 dX6_isTested_26 (by decide) (fun z11 => ?_) (fun z11 => ?_)
      · replace hw := hw.1 z11
        exact (r_subk hw trivial)
      · replace hw := hw.2 z11
        refine r_iconst (v := (1 : Int32)) C dX6_isTested_29 (by decide) ?_
        refine r_goto C 34 dX6_isTested_30 (by decide) ?_
        exact (r_subk hw trivial)
    )
  refine r_if_eq C 13 dX6_isTested_6 (by decide) (fun z12 => ?_) (fun z12 => ?_)
  · replace hw := hw.1 z12
    refine r_iconst (v := (1 : Int32)) C dX6_isTested_13 (by decide) ?_
    exact (r_subk hw ⟨rfl, rfl, trivial⟩)
  · replace hw := hw.2 z12
    refine r_iconst (v := (0 : Int32)) C dX6_isTested_9 (by decide) ?_
    refine r_goto C 14 dX6_isTested_10 (by decide) ?_
    exact (r_subk hw ⟨rfl, rfl, trivial⟩)
theorem v_X6_isTested : MV yX6_isTested cX6_isTested 2 (some .boolean) 1 := ⟨w_1023, w_1021, w_1022, w_60, ⟨by decide +kernel, by decide +kernel, by decide +kernel⟩⟩

def wp_X6_failed (h : Hp) (this : Nat) (post : Int32 → Hp → Prop) : Prop :=
(hT h this = 8 ∧
 (∀ h2, h2 = sI h this 0 (0 : Int32) →
 (∃ x4 : Int32, hI h2 this 29 = x4 ∧
 post x4 h2)))
set_option maxHeartbeats 4000000 in
set_option maxRecDepth 100000 in
theorem m_X6_failed {E : Ev} {l : Launch} (hl : l.stackTraces = false) {h : Hp} {this : Nat} {post : Int32 → Hp → Prop} (hw : wp_X6_failed h this post) : MT E l yX6_failed cX6_failed 1 (some .int) 0 0 0 0 h [.ref this] (poI post) (pxN) := by
  refine MT.of (by decide) hl (Nat.le_of_ble_eq_true rfl) (fun p e s m args below meth c C => ?_)
  unfold wp_X6_failed at hw
  have C : CX E p l s m args meth c cX6_failed 1 "TaktLineModel" "failed" (some .int) [] := C
  show WS E p l e (rmOf 0 0 0 0) s m args below meth c 1 (vx_MQ below (qcP E (poI post)) (xcP E (pxN)) args s 0 0 (bsA E)) h 0 0 0 [(0, .ref this)] []
  refine r_aload_n C dX6_failed_0 rfl rfl ?_
  refine r_iconst (v := (0 : Int32)) C dX6_failed_1 (by decide) ?_
  obtain ⟨g1, hw⟩ := hw
  obtain ⟨h2, eh2⟩ : ∃ z, z = sI h this 0 (0 : Int32) := ⟨_, rfl⟩
  replace hw := hw h2 eh2
  refine p_I C K8 ob8 g1 (by decide) 0 (by decide) w_813 (fun _ z => z) rfl (by decide +kernel) (Nat.le_of_ble_eq_true rfl) rfl dX6_failed_2 eh2 ?_
  refine r_aload_n C dX6_failed_5 rfl rfl ?_
  have g3 : hT h2 this = 8 := by rw [eh2]; exact g1
  obtain ⟨x4, e4, hw⟩ := hw
  refine r_getI C K8 ob8 g3 (by decide) 29 (by decide) w_842 (fun _ z => z) e4 rfl dX6_failed_6 ?_
  exact r_iret C dX6_failed_9 (by decide) (by decide) ⟨_, rfl, hw⟩
theorem v_X6_failed : MV yX6_failed cX6_failed 1 (some .int) 0 := ⟨w_1027, w_1025, w_1026, w_60, ⟨by decide +kernel, by decide +kernel, by decide +kernel⟩⟩

def wp_X6_atLarge (h : Hp) (this : Nat) (post : Int32 → Hp → Prop) : Prop :=
(hT h this = 8 ∧
 (∀ h2, h2 = sI h this 0 (0 : Int32) →
 (∀ J9 : Int32 → Int32 → Prop, (∀ (v9_1 : Int32) (v9_2 : Int32), (∃ x4 : Int32, hI h2 this 10 = x4 ∧
 ((x4 ≤ v9_2 →
 post v9_1 h2) ∧ (¬ (x4 ≤ v9_2) →
 (∀ J22 : Int32 → Int32 → Prop, (∀ (v22_3 : Int32) (v22_4 : Int32), (((10 : Int32) ≤ v22_4 →
 (∃ a7 : Nat, hR h2 this 12 = some a7 ∧
 (hT h2 a7 = 20 ∧
 (∃ j9 : Nat, v9_2 = nI j9 ∧ j9 < 2147483648 ∧ j9 < hL h2 a7 ∧
 (∃ x10 : Int32, hI h2 a7 j9 = x10 ∧
 (∀ J96 : Int32 → Prop, (∀ (t96_0 : Int32), (J9 (v9_1 + t96_0) (v9_2 + (1 : Int32))) → J96 t96_0) →
 (∀ J95 : Prop, ((J96 (0 : Int32)) → J95) →
 ((x10 = (3 : Int32) →
 ((v22_3 = 0 →
 J95) ∧ (¬ (v22_3 = 0) →
 J96 (1 : Int32)))) ∧ (¬ (x10 = (3 : Int32)) →
 J95))))))))) ∧ (¬ ((10 : Int32) ≤ v22_4) →
 (∃ a13 : Nat, hR h2 this 14 = some a13 ∧
 (hT h2 a13 = 20 ∧
 (∃ j15 : Nat, ((10 : Int32) * v9_2) + v22_4 = nI j15 ∧ j15 < 2147483648 ∧ j15 < hL h2 a13 ∧
 (∃ x16 : Int32, hI h2 a13 j15 = x16 ∧
 (∀ J69 : Int32 → Prop, (∀ (t69_0 : Int32), (J22 t69_0 (v22_4 + (1 : Int32))) → J69 t69_0) →
 (∀ J64 : Prop, ((J69 (1 : Int32)) → J64) →
 ((v22_3 = 0 →
 (∀ J68 : Prop, ((J69 (0 : Int32)) → J68) →
 ((x16 ≤ 0 →
 J68) ∧ (¬ (x16 ≤ 0) →
 (∃ a19 : Nat, hR h2 this 9 = some a19 ∧
 (hT h2 a19 = 21 ∧
 (∃ j21 : Nat, x16 - (1 : Int32) = nI j21 ∧ j21 < 2147483648 ∧ j21 < hL h2 a19 ∧
 (∃ x22 : Int32, hI h2 a19 j21 = x22 ∧
 ((x22 = 0 →
 J68) ∧ (¬ (x22 = 0) →
 J64)))))))))) ∧ (¬ (v22_3 = 0) →
 J64)))))))))) → J22 v22_3 v22_4) →
 J22 (0 : Int32) (0 : Int32))))) → J9 v9_1 v9_2) →
 J9 (0 : Int32) (0 : Int32))))
set_option maxHeartbeats 4000000 in
set_option maxRecDepth 100000 in
theorem m_X6_atLarge {E : Ev} {l : Launch} (hl : l.stackTraces = false) {h : Hp} {this : Nat} {post : Int32 → Hp → Prop} (hw : wp_X6_atLarge h this post) : MT E l yX6_atLarge cX6_atLarge 6 (some .int) 0 0 0 0 h [.ref this] (poI post) (pxN) := by
  refine MT.of (by decide) hl (Nat.le_of_ble_eq_true rfl) (fun p e s m args below meth c C => ?_)
  unfold wp_X6_atLarge at hw
  have C : CX E p l s m args meth c cX6_atLarge 6 "TaktLineModel" "atLarge" (some .int) [] := C
  show WS E p l e (rmOf 0 0 0 0) s m args below meth c 6 (vx_MQ below (qcP E (poI post)) (xcP E (pxN)) args s 0 0 (bsA E)) h 0 0 0 [(0, .ref this)] []
  refine r_aload_n C dX6_atLarge_0 rfl rfl ?_
  refine r_iconst (v := (0 : Int32)) C dX6_atLarge_1 (by decide) ?_
  obtain ⟨g1, hw⟩ := hw
  obtain ⟨h2, eh2⟩ : ∃ z, z = sI h this 0 (0 : Int32) := ⟨_, rfl⟩
  replace hw := hw h2 eh2
  refine p_I C K8 ob8 g1 (by decide) 0 (by decide) w_813 (fun _ z => z) rfl (by decide +kernel) (Nat.le_of_ble_eq_true rfl) rfl dX6_atLarge_2 eh2 ?_
  refine r_iconst (v := (0 : Int32)) C dX6_atLarge_5 (by decide) ?_
  refine r_istore_n C dX6_atLarge_6 rfl (by decide) [(0, .ref this), (1, .int (0 : Int32))] ⟨rfl, rfl, trivial⟩ ?_
  refine r_iconst (v := (0 : Int32)) C dX6_atLarge_7 (by decide) ?_
  refine r_istore_n C dX6_atLarge_8 rfl (by decide) [(0, .ref this), (1, .int (0 : Int32)), (2, .int (0 : Int32))] ⟨rfl, rfl, rfl, trivial⟩ ?_
  replace hw := hw (fun (v9_1 : Int32) (v9_2 : Int32) => WS E p l e (rmOf 0 0 0 0) s m args below meth c 6 (vx_MQ below (qcP E (poI post)) (xcP E (pxN)) args s 0 0 (bsA E)) h2 0 0 9 [(0, .ref this), (1, .int v9_1), (2, .int v9_2)] []) (by
    intro v9_1 v9_2 hv
    replace hw := hv
    clear hv
    refine r_iload_n C dX6_atLarge_9 rfl rfl ?_
    refine r_aload_n C dX6_atLarge_10 rfl rfl ?_
    have g3 : hT h2 this = 8 := by rw [eh2]; exact g1
    obtain ⟨x4, e4, hw⟩ := hw
    refine r_getI C K8 ob8 g3 (by decide) 10 (by decide) w_823 (fun _ z => z) e4 rfl dX6_atLarge_11 ?_
    refine r_icmp_ge C 104 dX6_atLarge_14 (by decide) (fun z5 => ?_) (fun z5 => ?_)
    · replace hw := hw.1 z5
      refine r_iload_n C dX6_atLarge_104 rfl rfl ?_
      exact r_iret C dX6_atLarge_105 (by decide) (by decide) ⟨_, rfl, hw⟩
    · replace hw := hw.2 z5
      refine r_iconst (v := (0 : Int32)) C dX6_atLarge_17 (by decide) ?_
      refine r_istore_n C dX6_atLarge_18 rfl (by decide) [(0, .ref this), (1, .int v9_1), (2, .int v9_2), (3, .int (0 : Int32))] ⟨rfl, rfl, rfl, rfl, trivial⟩ ?_
      refine r_iconst (v := (0 : Int32)) C dX6_atLarge_19 (by decide) ?_
      refine r_istore C dX6_atLarge_20 (by decide) [(0, .ref this), (1, .int v9_1), (2, .int v9_2), (3, .int (0 : Int32)), (4, .int (0 : Int32))] ⟨rfl, rfl, rfl, rfl, rfl, trivial⟩ ?_
      replace hw := hw (fun (v22_3 : Int32) (v22_4 : Int32) => WS E p l e (rmOf 0 0 0 0) s m args below meth c 6 (vx_MQ below (qcP E (poI post)) (xcP E (pxN)) args s 0 0 (bsA E)) h2 0 0 22 [(0, .ref this), (1, .int v9_1), (2, .int v9_2), (3, .int v22_3), (4, .int v22_4)] []) (by
        intro v22_3 v22_4 hv
        replace hw := hv
        clear hv
        refine r_iload C dX6_atLarge_22 rfl ?_
        refine r_bipush (v := (10 : Int32)) C dX6_atLarge_24 (by decide) ?_
        refine r_icmp_ge C 76 dX6_atLarge_26 (by decide) (fun z6 => ?_) (fun z6 => ?_)
        · replace hw := hw.1 z6
          refine r_iload_n C dX6_atLarge_76 rfl rfl ?_
          refine r_aload_n C dX6_atLarge_77 rfl rfl ?_
          obtain ⟨a7, e7, hw⟩ := hw
          refine r_getA C K8 ob8 g3 (by decide) 12 (by decide) w_825 (fun _ z => z) e7 rfl dX6_atLarge_78 ?_
          refine r_iload_n C dX6_atLarge_81 rfl rfl ?_
          obtain ⟨g8, hw⟩ := hw
          obtain ⟨j9, f9, l9, k9, hw⟩ := hw
          obtain ⟨x10, e10, hw⟩ := hw
          refine a_I C g8 f9 l9 k9 e10 dX6_atLarge_82 ?_
          refine r_iconst (v := (3 : Int32)) C dX6_atLarge_83 (by decide) ?_
          replace hw := hw (fun (t96_0 : Int32) => WS E p l e (rmOf 0 0 0 0) s m args below meth c 6 (vx_MQ below (qcP E (poI post)) (xcP E (pxN)) args s 0 0 (bsA E)) h2 0 0 96 [(0, .ref this), (2, .int v9_2)] [.int t96_0, .int v9_1]) (by
            intro t96_0 hv
            replace hw := hv
            clear hv
            refine r_iadd C dX6_atLarge_96 ?_
            refine r_istore_n C dX6_atLarge_97 rfl (by decide) [(0, .ref this), (1, .int (v9_1 + t96_0)), (2, .int v9_2)] ⟨rfl, rfl, rfl, trivial⟩ ?_
            refine r_iinc C (v9_2 + (1 : Int32)) dX6_atLarge_98 rfl rfl (by decide) [(0, .ref this), (1, .int (v9_1 + t96_0)), (2, .int (v9_2 + (1 : Int32)))] ⟨rfl, rfl, rfl, trivial⟩ ?_
            refine r_goto C 9 dX6_atLarge_101 (by decide) ?_
            exact (r_subk hw ⟨rfl, rfl, rfl, trivial⟩)
            )
          replace hw := hw (WS E p l e (rmOf 0 0 0 0) s m args below meth c 6 (vx_MQ below (qcP E (poI post)) (xcP E (pxN)) args s 0 0 (bsA E)) h2 0 0 95 [(0, .ref this), (2, .int v9_2)] [.int v9_1]) (by
            intro hv
            replace hw := hv
            clear hv
            refine r_iconst (v := (0 : Int32)) C dX6_atLarge_95 (by decide) ?_
            exact (r_subk hw ⟨rfl, rfl, trivial⟩)
            )
          refine r_icmp_ne C 95 dX6_atLarge_84 (by decide) (fun z11 => ?_) (fun z11 => ?_)
          · replace hw := hw.2 z11
            exact (r_subk hw ⟨rfl, rfl, trivial⟩)
          · replace hw := hw.1 z11
            refine r_iload_n C dX6_atLarge_87 rfl rfl ?_
            refine r_if_eq C 95 dX6_atLarge_88 (by decide) (fun z12 => ?_) (fun z12 => ?_)
            · replace hw := hw.1 z12
              exact (r_subk hw ⟨rfl, rfl, trivial⟩)
            · replace hw := hw.2 z12
              refine r_iconst (v := (1 : Int32)) C dX6_atLarge_91 (by decide) ?_
              refine r_goto C 96 dX6_atLarge_92 (by decide) ?_
              exact (r_subk hw ⟨rfl, rfl, trivial⟩)
        · replace hw := hw.2 z6
          refine r_aload_n C dX6_atLarge_29 rfl rfl ?_
          obtain ⟨a13, e13, hw⟩ := hw
          refine r_getA C K8 ob8 g3 (by decide) 14 (by decide) w_827 (fun _ z => z) e13 rfl dX6_atLarge_30 ?_
          refine r_bipush (v := (10 : Int32)) C dX6_atLarge_33 (by decide) ?_
          refine r_iload_n C dX6_atLarge_35 rfl rfl ?_
          refine r_imul C dX6_atLarge_36 ?_
          refine r_iload C dX6_atLarge_37 rfl ?_
          refine r_iadd C dX6_atLarge_39 ?_
          obtain ⟨g14, hw⟩ := hw
          obtain ⟨j15, f15, l15, k15, hw⟩ := hw
          obtain ⟨x16, e16, hw⟩ := hw
          refine a_I C g14 f15 l15 k15 e16 dX6_atLarge_40 ?_
          refine r_istore C dX6_atLarge_41 (by decide) [(0, .ref this), (1, .int v9_1), (2, .int v9_2), (3, .int v22_3), (4, .int v22_4), (5, .int x16)] ⟨rfl, rfl, rfl, rfl, rfl, rfl, trivial⟩ ?_
          refine r_iload_n C dX6_atLarge_43 rfl rfl ?_
          replace hw := hw (fun (t69_0 : Int32) => WS E p l e (rmOf 0 0 0 0) s m args below meth c 6 (vx_MQ below (qcP E (poI post)) (xcP E (pxN)) args s 0 0 (bsA E)) h2 0 0 69 [(0, .ref this), (1, .int v9_1), (2, .int v9_2), (4, .int v22_4)] [.int t69_0]) (by
            intro t69_0 hv
            replace hw := hv
            clear hv
            refine r_istore_n C dX6_atLarge_69 rfl (by decide) [(0, .ref this), (1, .int v9_1), (2, .int v9_2), (3, .int t69_0), (4, .int v22_4)] ⟨rfl, rfl, rfl, rfl, rfl, trivial⟩ ?_
            refine r_iinc C (v22_4 + (1 : Int32)) dX6_atLarge_70 rfl rfl (by decide) [(0, .ref this), (1, .int v9_1), (2, .int v9_2), (3, .int t69_0), (4, .int (v22_4 + (1 : Int32)))] ⟨rfl, rfl, rfl, rfl, rfl, trivial⟩ ?_
            refine r_goto C 22 dX6_atLarge_73 (by decide) ?_
            exact (r_subk hw ⟨rfl, rfl, rfl, rfl, rfl, trivial⟩)
            )
          replace hw := hw (WS E p l e (rmOf 0 0 0 0) s m args below meth c 6 (vx_MQ below (qcP E (poI post)) (xcP E (pxN)) args s 0 0 (bsA E)) h2 0 0 64 [(0, .ref this), (1, .int v9_1), (2, .int v9_2), (4, .int v22_4)] []) (by
            intro hv
            replace hw := hv
            clear hv
            refine r_iconst (v := (1 : Int32)) C dX6_atLarge_64 (by decide) ?_
            refine r_goto C 69 dX6_atLarge_65 (by decide) ?_
            exact (r_subk hw ⟨rfl, rfl, rfl, rfl, trivial⟩)
            )
          refine r_if_ne C 64 dX6_atLarge_44 (by decide) (fun z17 => ?_) (fun z17 => ?_)
          · replace hw := hw.2 z17
            exact (r_subk hw ⟨rfl, rfl, rfl, rfl, trivial⟩)
          · replace hw := hw.1 z17
            refine r_iload C dX6_atLarge_47 rfl ?_
            replace hw := hw (WS E p l e (rmOf 0 0 0 0) s m args below meth c 6 (vx_MQ below (qcP E (poI post)) (xcP E (pxN)) args s 0 0 (bsA E)) h2 0 0 68 [(0, .ref this), (1, .int v9_1), (2, .int v9_2), (4, .int v22_4)] []) (by
              intro hv
              replace hw := hv
              clear hv
              refine r_iconst (v := (0 : Int32)) C dX6_atLarge_68 (by decide) ?_
              exact (r_subk hw ⟨rfl, rfl, rfl, rfl, trivial⟩)
              )
            refine r_if_le C 68 dX6_atLarge_49 (by decide) (fun z18 => ?_) (fun z18 => ?_)
            · replace hw := hw.1 z18
              exact (r_subk hw ⟨rfl, rfl, rfl, rfl, trivial⟩)
            · replace hw := hw.2 z18
              refine r_aload_n C dX6_atLarge_52 rfl rfl ?_
              obtain ⟨a19, e19, hw⟩ := hw
              refine r_getA C K8 ob8 g3 (by decide) 9 (by decide) w_822 (fun _ z => z) e19 rfl dX6_atLarge_53 ?_
              refine r_iload C dX6_atLarge_56 rfl ?_
              refine r_iconst (v := (1 : Int32)) C dX6_atLarge_58 (by decide) ?_
              refine r_isub C dX6_atLarge_59 ?_
              obtain ⟨g20, hw⟩ := hw
              obtain ⟨j21, f21, l21, k21, hw⟩ := hw
              obtain ⟨x22, e22, hw⟩ := hw
              refine a_B C g20 f21 l21 k21 e22 dX6_atLarge_60 ?_
              refine r_if_eq C 68 dX6_atLarge_61 (by decide) (fun z23 => ?_) (fun z23 => ?_)
              · replace hw := hw.1 z23
                exact (r_subk hw ⟨rfl, rfl, rfl, rfl, trivial⟩)
              · replace hw := hw.2 z23
                exact (r_subk hw ⟨rfl, rfl, rfl, rfl, trivial⟩)
        )
      exact (r_subk hw ⟨rfl, rfl, rfl, rfl, rfl, trivial⟩)
    )
  exact (r_subk hw ⟨rfl, rfl, rfl, trivial⟩)
theorem v_X6_atLarge : MV yX6_atLarge cX6_atLarge 6 (some .int) 0 := ⟨w_1031, w_1029, w_1030, w_60, ⟨by decide +kernel, by decide +kernel, by decide +kernel⟩⟩

def wp_X6_order (h : Hp) (this : Nat) (p0 : Int32) (post : Int32 → Hp → Prop) : Prop :=
wp_X6_in h p0 (0 : Int32) (255 : Int32) (fun x1 =>
 (∀ J30 : Int32 → Prop, (∀ (t30_0 : Int32), (hT h this = 8 ∧
 wp_X6_goesWell h this t30_0 (fun x2 h2 =>
 ((x2 = 0 →
 post (0 : Int32) h2) ∧ (¬ (x2 = 0) →
 (hT h2 this = 8 ∧
 (∃ a6 : Nat, hR h2 this 11 = some a6 ∧
 (∃ x7 : Int32, hI h2 this 10 = x7 ∧
 (hT h2 a6 = 20 ∧
 (∃ j9 : Nat, x7 = nI j9 ∧ j9 < 2147483648 ∧ j9 < hL h2 a6 ∧
 (∀ h10, h10 = sI h2 a6 j9 p0 →
 (∃ a12 : Nat, hR h10 this 12 = some a12 ∧
 (∃ x13 : Int32, hI h10 this 10 = x13 ∧
 (hT h10 a12 = 20 ∧
 (∃ j15 : Nat, x13 = nI j15 ∧ j15 < 2147483648 ∧ j15 < hL h10 a12 ∧
 (∀ h16, h16 = sI h10 a12 j15 (0 : Int32) →
 (∃ x18 : Int32, hI h16 this 10 = x18 ∧
 (∀ h19, h19 = sI h16 this 10 (x18 + (1 : Int32)) →
 (∃ x21 : Int32, hI h19 this 10 = x21 ∧
 post (x21 - (1 : Int32)) h19)))))))))))))))))) → J30 t30_0) →
 ((x1 = 0 →
 J30 (1 : Int32)) ∧ (¬ (x1 = 0) →
 (hT h this = 8 ∧
 (∃ x24 : Int32, hI h this 10 = x24 ∧
 ((x24 = (30 : Int32) →
 J30 (2 : Int32)) ∧ (¬ (x24 = (30 : Int32)) →
 J30 (0 : Int32)))))))))
set_option maxHeartbeats 4000000 in
set_option maxRecDepth 100000 in
theorem m_X6_order {E : Ev} {l : Launch} (hl : l.stackTraces = false) {h : Hp} {this : Nat} {p0 : Int32} {post : Int32 → Hp → Prop} (hw : wp_X6_order h this p0 post) : MT E l yX6_order cX6_order 2 (some .int) 1 22 0 0 h [.ref this, .int p0] (poI post) (pxN) := by
  refine MT.of (by decide) hl (Nat.le_of_ble_eq_true rfl) (fun p e s m args below meth c C => ?_)
  unfold wp_X6_order at hw
  have C : CX E p l s m args meth c cX6_order 2 "TaktLineModel" "order" (some .int) [] := C
  show WS E p l e (rmOf 1 0 0 22) s m args below meth c 2 (vx_MQ below (qcP E (poI post)) (xcP E (pxN)) args s 0 0 (bsA E)) h 0 0 0 [(0, .ref this), (1, .int p0)] []
  refine r_aload_n C dX6_order_0 rfl rfl ?_
  refine r_iload_n C dX6_order_1 rfl rfl ?_
  refine r_iconst (v := (0 : Int32)) C dX6_order_2 (by decide) ?_
  refine r_sipush (v := (255 : Int32)) C dX6_order_3 (by decide) ?_
  refine r_callS (As := [.int p0, .int (0 : Int32), .int (255 : Int32)]) (st := [.ref this]) C (m_X6_in hl hw) v_X6_in w_913 rfl ⟨leb rfl, leb rfl⟩ ⟨leb rfl, leb rfl⟩ rfl (leb rfl) dX6_order_6 (fun _ _ z => z.elim) (kpI (K := fun hK sK => WS E p l e (rmOf 1 0 0 22) s m args below meth c 2 (vx_MQ below (qcP E (poI post)) (xcP E (pxN)) args s 0 0 (bsA E)) hK (0 + 0) (0 + 0) (6 + 3) [(0, .ref this), (1, .int p0)] sK) (fun x1 hv => ?_))
  replace hw := hv
  clear hv
  replace hw := hw (fun (t30_0 : Int32) => WS E p l e (rmOf 1 0 0 22) s m args below meth c 2 (vx_MQ below (qcP E (poI post)) (xcP E (pxN)) args s 0 0 (bsA E)) h 0 0 30 [(0, .ref this), (1, .int p0)] [.int t30_0, .ref this]) (by
    intro t30_0 hv
    replace hw := hv
    clear hv
    obtain ⟨g3, hw⟩ := hw
    refine r_callV (As := [.int t30_0]) (st := []) C (m_X6_goesWell hl hw) v_X6_goesWell w_919 K8 g3 (by decide) ob8 rfl ⟨leb rfl, leb rfl⟩ ⟨leb rfl, leb rfl⟩ rfl (leb rfl) dX6_order_30 (fun _ _ z => z.elim) (kkI (K := fun hK sK => WS E p l e (rmOf 1 0 0 22) s m args below meth c 2 (vx_MQ below (qcP E (poI post)) (xcP E (pxN)) args s 0 0 (bsA E)) hK (0 + 0) (0 + 0) (30 + 3) [(0, .ref this), (1, .int p0)] sK) (fun x2 h2 hv => ?_))
    replace hw := hv
    clear hv
    refine r_if_ne C 38 dX6_order_33 (by decide) (fun z4 => ?_) (fun z4 => ?_)
    · replace hw := hw.2 z4
      refine r_aload_n C dX6_order_38 rfl rfl ?_
      obtain ⟨g5, hw⟩ := hw
      obtain ⟨a6, e6, hw⟩ := hw
      refine r_getA C K8 ob8 g5 (by decide) 11 (by decide) w_824 (fun _ z => z) e6 rfl dX6_order_39 ?_
      refine r_aload_n C dX6_order_42 rfl rfl ?_
      obtain ⟨x7, e7, hw⟩ := hw
      refine r_getI C K8 ob8 g5 (by decide) 10 (by decide) w_823 (fun _ z => z) e7 rfl dX6_order_43 ?_
      refine r_iload_n C dX6_order_46 rfl rfl ?_
      obtain ⟨g8, hw⟩ := hw
      obtain ⟨j9, f9, l9, k9, hw⟩ := hw
      obtain ⟨h10, eh10⟩ : ∃ z, z = sI h2 a6 j9 p0 := ⟨_, rfl⟩
      replace hw := hw h10 eh10
      refine s_I C g8 f9 l9 k9 dX6_order_47 eh10 ?_
      refine r_aload_n C dX6_order_48 rfl rfl ?_
      have g11 : hT h10 this = 8 := by rw [eh10]; exact g5
      obtain ⟨a12, e12, hw⟩ := hw
      refine r_getA C K8 ob8 g11 (by decide) 12 (by decide) w_825 (fun _ z => z) e12 rfl dX6_order_49 ?_
      refine r_aload_n C dX6_order_52 rfl rfl ?_
      obtain ⟨x13, e13, hw⟩ := hw
      refine r_getI C K8 ob8 g11 (by decide) 10 (by decide) w_823 (fun _ z => z) e13 rfl dX6_order_53 ?_
      refine r_iconst (v := (0 : Int32)) C dX6_order_56 (by decide) ?_
      obtain ⟨g14, hw⟩ := hw
      obtain ⟨j15, f15, l15, k15, hw⟩ := hw
      obtain ⟨h16, eh16⟩ : ∃ z, z = sI h10 a12 j15 (0 : Int32) := ⟨_, rfl⟩
      replace hw := hw h16 eh16
      refine s_I C g14 f15 l15 k15 dX6_order_57 eh16 ?_
      refine r_aload_n C dX6_order_58 rfl rfl ?_
      refine r_dup C dX6_order_59 rfl ?_
      have g17 : hT h16 this = 8 := by rw [eh16]; exact g11
      obtain ⟨x18, e18, hw⟩ := hw
      refine r_getI C K8 ob8 g17 (by decide) 10 (by decide) w_823 (fun _ z => z) e18 rfl dX6_order_60 ?_
      refine r_iconst (v := (1 : Int32)) C dX6_order_63 (by decide) ?_
      refine r_iadd C dX6_order_64 ?_
      obtain ⟨h19, eh19⟩ : ∃ z, z = sI h16 this 10 (x18 + (1 : Int32)) := ⟨_, rfl⟩
      replace hw := hw h19 eh19
      refine p_I C K8 ob8 g17 (by decide) 10 (by decide) w_823 (fun _ z => z) rfl (by decide +kernel) (Nat.le_of_ble_eq_true rfl) rfl dX6_order_65 eh19 ?_
      refine r_aload_n C dX6_order_68 rfl rfl ?_
      have g20 : hT h19 this = 8 := by rw [eh19]; exact g17
      obtain ⟨x21, e21, hw⟩ := hw
      refine r_getI C K8 ob8 g20 (by decide) 10 (by decide) w_823 (fun _ z => z) e21 rfl dX6_order_69 ?_
      refine r_iconst (v := (1 : Int32)) C dX6_order_72 (by decide) ?_
      refine r_isub C dX6_order_73 ?_
      exact r_iret C dX6_order_74 (by decide) (by decide) ⟨_, rfl, hw⟩
    · replace hw := hw.1 z4
      refine r_iconst (v := (0 : Int32)) C dX6_order_36 (by decide) ?_
      exact r_iret C dX6_order_37 (by decide) (by decide) ⟨_, rfl, hw⟩
    )
  refine r_if_ne C 16 dX6_order_9 (by decide) (fun z22 => ?_) (fun z22 => ?_)
  · replace hw := hw.2 z22
    refine r_aload_n C dX6_order_16 rfl rfl ?_
    obtain ⟨g23, hw⟩ := hw
    obtain ⟨x24, e24, hw⟩ := hw
    refine r_getI C K8 ob8 g23 (by decide) 10 (by decide) w_823 (fun _ z => z) e24 rfl dX6_order_17 ?_
    refine r_bipush (v := (30 : Int32)) C dX6_order_20 (by decide) ?_
    refine r_icmp_ne C 29 dX6_order_22 (by decide) (fun z25 => ?_) (fun z25 => ?_)
    · replace hw := hw.2 z25
      refine r_iconst (v := (0 : Int32)) C dX6_order_29 (by decide) ?_
      exact (r_subk hw ⟨rfl, rfl, trivial⟩)
    · replace hw := hw.1 z25
      refine r_iconst (v := (2 : Int32)) C dX6_order_25 (by decide) ?_
      refine r_goto C 30 dX6_order_26 (by decide) ?_
      exact (r_subk hw ⟨rfl, rfl, trivial⟩)
  · replace hw := hw.1 z22
    refine r_iconst (v := (1 : Int32)) C dX6_order_12 (by decide) ?_
    refine r_goto C 30 dX6_order_13 (by decide) ?_
    exact (r_subk hw ⟨rfl, rfl, trivial⟩)
theorem v_X6_order : MV yX6_order cX6_order 2 (some .int) 1 := ⟨w_1035, w_1033, w_1034, w_60, ⟨by decide +kernel, by decide +kernel, by decide +kernel⟩⟩

def wp_X6_backTo (h : Hp) (this : Nat) (p0 : Int32) (p1 : Int32) (post : Int32 → Prop) : Prop :=
(∀ J5 : Int32 → Int32 → Prop, (∀ (v5_3 : Int32) (v5_4 : Int32), (((10 : Int32) ≤ v5_4 →
 post v5_3) ∧ (¬ ((10 : Int32) ≤ v5_4) →
 (hT h this = 8 ∧
 (∃ a3 : Nat, hR h this 1 = some a3 ∧
 (hT h a3 = 20 ∧
 (∃ j5 : Nat, v5_4 = nI j5 ∧ j5 < 2147483648 ∧ j5 < hL h a3 ∧
 (∃ x6 : Int32, hI h a3 j5 = x6 ∧
 (∀ J38 : Int32 → Prop, (∀ (t38_0 : Int32), (∀ J72 : Int32 → Prop, (∀ (t72_0 : Int32), (J5 t72_0 (v5_4 + (1 : Int32))) → J72 t72_0) →
 (∀ J71 : Prop, ((J72 v5_3) → J71) →
 ((t38_0 = 0 →
 J71) ∧ (¬ (t38_0 = 0) →
 (∀ J61 : Prop, ((∃ a8 : Nat, hR h this 1 = some a8 ∧
 (hT h a8 = 20 ∧
 (∃ j10 : Nat, v5_4 = nI j10 ∧ j10 < 2147483648 ∧ j10 < hL h a8 ∧
 (∃ x11 : Int32, hI h a8 j10 = x11 ∧
 J72 x11)))) → J61) →
 ((v5_3 = (-1 : Int32) →
 J61) ∧ (¬ (v5_3 = (-1 : Int32)) →
 (∃ a13 : Nat, hR h this 1 = some a13 ∧
 (hT h a13 = 20 ∧
 (∃ j15 : Nat, v5_4 = nI j15 ∧ j15 < 2147483648 ∧ j15 < hL h a13 ∧
 (∃ x16 : Int32, hI h a13 j15 = x16 ∧
 ((v5_3 ≤ x16 →
 J71) ∧ (¬ (v5_3 ≤ x16) →
 J61))))))))))))) → J38 t38_0) →
 (∀ J37 : Prop, ((J38 (0 : Int32)) → J37) →
 ((p1 ≤ x6 →
 J37) ∧ (¬ (p1 ≤ x6) →
 wp_X6_doesLack h this p0 v5_4 (fun x19 =>
 ((x19 = 0 →
 J37) ∧ (¬ (x19 = 0) →
 J38 (1 : Int32))))))))))))))) → J5 v5_3 v5_4) →
 J5 (-1 : Int32) (0 : Int32))
set_option maxHeartbeats 4000000 in
set_option maxRecDepth 100000 in
theorem m_X6_backTo {E : Ev} {l : Launch} (hl : l.stackTraces = false) {h : Hp} {this : Nat} {p0 : Int32} {p1 : Int32} {post : Int32 → Prop} (hw : wp_X6_backTo h this p0 p1 post) : MT E l yX6_backTo cX6_backTo 6 (some .int) 2 45 0 0 h [.ref this, .int p0, .int p1] (puI h post) (pxN) := by
  refine MT.of (by decide) hl (Nat.le_of_ble_eq_true rfl) (fun p e s m args below meth c C => ?_)
  unfold wp_X6_backTo at hw
  have C : CX E p l s m args meth c cX6_backTo 6 "TaktLineModel" "backTo" (some .int) [] := C
  show WS E p l e (rmOf 2 0 0 45) s m args below meth c 6 (vx_MQ below (qcP E (puI h post)) (xcP E (pxN)) args s 0 0 (bsA E)) h 0 0 0 [(0, .ref this), (1, .int p0), (2, .int p1)] []
  refine r_iconst (v := (-1 : Int32)) C dX6_backTo_0 (by decide) ?_
  refine r_istore_n C dX6_backTo_1 rfl (by decide) [(0, .ref this), (1, .int p0), (2, .int p1), (3, .int (-1 : Int32))] ⟨rfl, rfl, rfl, rfl, trivial⟩ ?_
  refine r_iconst (v := (0 : Int32)) C dX6_backTo_2 (by decide) ?_
  refine r_istore C dX6_backTo_3 (by decide) [(0, .ref this), (1, .int p0), (2, .int p1), (3, .int (-1 : Int32)), (4, .int (0 : Int32))] ⟨rfl, rfl, rfl, rfl, rfl, trivial⟩ ?_
  replace hw := hw (fun (v5_3 : Int32) (v5_4 : Int32) => WS E p l e (rmOf 2 0 0 45) s m args below meth c 6 (vx_MQ below (qcP E (puI h post)) (xcP E (pxN)) args s 0 0 (bsA E)) h 0 0 5 [(0, .ref this), (1, .int p0), (2, .int p1), (3, .int v5_3), (4, .int v5_4)] []) (by
    intro v5_3 v5_4 hv
    replace hw := hv
    clear hv
    refine r_iload C dX6_backTo_5 rfl ?_
    refine r_bipush (v := (10 : Int32)) C dX6_backTo_7 (by decide) ?_
    refine r_icmp_ge C 79 dX6_backTo_9 (by decide) (fun z1 => ?_) (fun z1 => ?_)
    · replace hw := hw.1 z1
      refine r_iload_n C dX6_backTo_79 rfl rfl ?_
      exact r_iret C dX6_backTo_80 (by decide) (by decide) ⟨_, rfl, hw, rfl⟩
    · replace hw := hw.2 z1
      refine r_aload_n C dX6_backTo_12 rfl rfl ?_
      obtain ⟨g2, hw⟩ := hw
      obtain ⟨a3, e3, hw⟩ := hw
      refine r_getA C K8 ob8 g2 (by decide) 1 (by decide) w_814 (fun _ z => z) e3 rfl dX6_backTo_13 ?_
      refine r_iload C dX6_backTo_16 rfl ?_
      obtain ⟨g4, hw⟩ := hw
      obtain ⟨j5, f5, l5, k5, hw⟩ := hw
      obtain ⟨x6, e6, hw⟩ := hw
      refine a_I C g4 f5 l5 k5 e6 dX6_backTo_18 ?_
      refine r_iload_n C dX6_backTo_19 rfl rfl ?_
      replace hw := hw (fun (t38_0 : Int32) => WS E p l e (rmOf 2 0 0 45) s m args below meth c 6 (vx_MQ below (qcP E (puI h post)) (xcP E (pxN)) args s 0 0 (bsA E)) h 0 0 38 [(0, .ref this), (1, .int p0), (2, .int p1), (3, .int v5_3), (4, .int v5_4)] [.int t38_0]) (by
        intro t38_0 hv
        replace hw := hv
        clear hv
        refine r_istore C dX6_backTo_38 (by decide) [(0, .ref this), (1, .int p0), (2, .int p1), (3, .int v5_3), (4, .int v5_4), (5, .int t38_0)] ⟨rfl, rfl, rfl, rfl, rfl, rfl, trivial⟩ ?_
        refine r_iload C dX6_backTo_40 rfl ?_
        replace hw := hw (fun (t72_0 : Int32) => WS E p l e (rmOf 2 0 0 45) s m args below meth c 6 (vx_MQ below (qcP E (puI h post)) (xcP E (pxN)) args s 0 0 (bsA E)) h 0 0 72 [(0, .ref this), (1, .int p0), (2, .int p1), (4, .int v5_4)] [.int t72_0]) (by
          intro t72_0 hv
          replace hw := hv
          clear hv
          refine r_istore_n C dX6_backTo_72 rfl (by decide) [(0, .ref this), (1, .int p0), (2, .int p1), (3, .int t72_0), (4, .int v5_4)] ⟨rfl, rfl, rfl, rfl, rfl, trivial⟩ ?_
          refine r_iinc C (v5_4 + (1 : Int32)) dX6_backTo_73 rfl rfl (by decide) [(0, .ref this), (1, .int p0), (2, .int p1), (3, .int t72_0), (4, .int (v5_4 + (1 : Int32)))] ⟨rfl, rfl, rfl, rfl, rfl, trivial⟩ ?_
          refine r_goto C 5 dX6_backTo_76 (by decide) ?_
          exact (r_subk hw ⟨rfl, rfl, rfl, rfl, rfl, trivial⟩)
          )
        replace hw := hw (WS E p l e (rmOf 2 0 0 45) s m args below meth c 6 (vx_MQ below (qcP E (puI h post)) (xcP E (pxN)) args s 0 0 (bsA E)) h 0 0 71 [(0, .ref this), (1, .int p0), (2, .int p1), (3, .int v5_3), (4, .int v5_4)] []) (by
          intro hv
          replace hw := hv
          clear hv
          refine r_iload_n C dX6_backTo_71 rfl rfl ?_
          exact (r_subk hw ⟨rfl, rfl, rfl, rfl, trivial⟩)
          )
        refine r_if_eq C 71 dX6_backTo_42 (by decide) (fun z7 => ?_) (fun z7 => ?_)
        · replace hw := hw.1 z7
          exact (r_subk hw ⟨rfl, rfl, rfl, rfl, rfl, trivial⟩)
        · replace hw := hw.2 z7
          refine r_iload_n C dX6_backTo_45 rfl rfl ?_
          refine r_iconst (v := (-1 : Int32)) C dX6_backTo_46 (by decide) ?_
          replace hw := hw (WS E p l e (rmOf 2 0 0 45) s m args below meth c 6 (vx_MQ below (qcP E (puI h post)) (xcP E (pxN)) args s 0 0 (bsA E)) h 0 0 61 [(0, .ref this), (1, .int p0), (2, .int p1), (4, .int v5_4)] []) (by
            intro hv
            replace hw := hv
            clear hv
            refine r_aload_n C dX6_backTo_61 rfl rfl ?_
            obtain ⟨a8, e8, hw⟩ := hw
            refine r_getA C K8 ob8 g2 (by decide) 1 (by decide) w_814 (fun _ z => z) e8 rfl dX6_backTo_62 ?_
            refine r_iload C dX6_backTo_65 rfl ?_
            obtain ⟨g9, hw⟩ := hw
            obtain ⟨j10, f10, l10, k10, hw⟩ := hw
            obtain ⟨x11, e11, hw⟩ := hw
            refine a_I C g9 f10 l10 k10 e11 dX6_backTo_67 ?_
            refine r_goto C 72 dX6_backTo_68 (by decide) ?_
            exact (r_subk hw ⟨rfl, rfl, rfl, rfl, trivial⟩)
            )
          refine r_icmp_eq C 61 dX6_backTo_47 (by decide) (fun z12 => ?_) (fun z12 => ?_)
          · replace hw := hw.1 z12
            exact (r_subk hw ⟨rfl, rfl, rfl, rfl, trivial⟩)
          · replace hw := hw.2 z12
            refine r_aload_n C dX6_backTo_50 rfl rfl ?_
            obtain ⟨a13, e13, hw⟩ := hw
            refine r_getA C K8 ob8 g2 (by decide) 1 (by decide) w_814 (fun _ z => z) e13 rfl dX6_backTo_51 ?_
            refine r_iload C dX6_backTo_54 rfl ?_
            obtain ⟨g14, hw⟩ := hw
            obtain ⟨j15, f15, l15, k15, hw⟩ := hw
            obtain ⟨x16, e16, hw⟩ := hw
            refine a_I C g14 f15 l15 k15 e16 dX6_backTo_56 ?_
            refine r_iload_n C dX6_backTo_57 rfl rfl ?_
            refine r_icmp_ge C 71 dX6_backTo_58 (by decide) (fun z17 => ?_) (fun z17 => ?_)
            · replace hw := hw.1 z17
              exact (r_subk hw ⟨rfl, rfl, rfl, rfl, rfl, trivial⟩)
            · replace hw := hw.2 z17
              exact (r_subk hw ⟨rfl, rfl, rfl, rfl, trivial⟩)
        )
      replace hw := hw (WS E p l e (rmOf 2 0 0 45) s m args below meth c 6 (vx_MQ below (qcP E (puI h post)) (xcP E (pxN)) args s 0 0 (bsA E)) h 0 0 37 [(0, .ref this), (1, .int p0), (2, .int p1), (3, .int v5_3), (4, .int v5_4)] []) (by
        intro hv
        replace hw := hv
        clear hv
        refine r_iconst (v := (0 : Int32)) C dX6_backTo_37 (by decide) ?_
        exact (r_subk hw ⟨rfl, rfl, rfl, rfl, rfl, trivial⟩)
        )
      refine r_icmp_ge C 37 dX6_backTo_20 (by decide) (fun z18 => ?_) (fun z18 => ?_)
      · replace hw := hw.1 z18
        exact (r_subk hw ⟨rfl, rfl, rfl, rfl, rfl, trivial⟩)
      · replace hw := hw.2 z18
        refine r_aload_n C dX6_backTo_23 rfl rfl ?_
        refine r_iload_n C dX6_backTo_24 rfl rfl ?_
        refine r_iload C dX6_backTo_25 rfl ?_
        refine r_callV (As := [.int p0, .int v5_4]) (st := []) C (m_X6_doesLack hl hw) v_X6_doesLack w_959 K8 g2 (by decide) ob8 rfl ⟨leb rfl, leb rfl⟩ ⟨leb rfl, leb rfl⟩ rfl (leb rfl) dX6_backTo_27 (fun _ _ z => z.elim) (kpI (K := fun hK sK => WS E p l e (rmOf 2 0 0 45) s m args below meth c 6 (vx_MQ below (qcP E (puI h post)) (xcP E (pxN)) args s 0 0 (bsA E)) hK (0 + 0) (0 + 0) (27 + 3) [(0, .ref this), (1, .int p0), (2, .int p1), (3, .int v5_3), (4, .int v5_4)] sK) (fun x19 hv => ?_))
        replace hw := hv
        clear hv
        refine r_if_eq C 37 dX6_backTo_30 (by decide) (fun z20 => ?_) (fun z20 => ?_)
        · replace hw := hw.1 z20
          exact (r_subk hw ⟨rfl, rfl, rfl, rfl, rfl, trivial⟩)
        · replace hw := hw.2 z20
          refine r_iconst (v := (1 : Int32)) C dX6_backTo_33 (by decide) ?_
          refine r_goto C 38 dX6_backTo_34 (by decide) ?_
          exact (r_subk hw ⟨rfl, rfl, rfl, rfl, rfl, trivial⟩)
    )
  exact (r_subk hw ⟨rfl, rfl, rfl, rfl, rfl, trivial⟩)
theorem v_X6_backTo : MV yX6_backTo cX6_backTo 6 (some .int) 2 := ⟨w_1047, w_1046, w_47, w_60, ⟨by decide +kernel, by decide +kernel, by decide +kernel⟩⟩

def wp_X6_isDone (h : Hp) (this : Nat) (p0 : Int32) (p1 : Int32) (post : Int32 → Prop) : Prop :=
(∀ J39 : Int32 → Prop, (∀ (t39_0 : Int32), (∀ J43 : Int32 → Int32 → Prop, (∀ (v43_3 : Int32) (v43_4 : Int32), (((10 : Int32) ≤ v43_4 →
 (b01 v43_3 ∧
 post v43_3)) ∧ (¬ ((10 : Int32) ≤ v43_4) →
 (∀ J80 : Int32 → Prop, (∀ (t80_0 : Int32), (J43 t80_0 (v43_4 + (1 : Int32))) → J80 t80_0) →
 (∀ J79 : Prop, ((J80 (0 : Int32)) → J79) →
 ((v43_3 = 0 →
 J79) ∧ (¬ (v43_3 = 0) →
 (hT h this = 8 ∧
 (∃ a5 : Nat, hR h this 1 = some a5 ∧
 (hT h a5 = 20 ∧
 (∃ j7 : Nat, v43_4 = nI j7 ∧ j7 < 2147483648 ∧ j7 < hL h a5 ∧
 (∃ x8 : Int32, hI h a5 j7 = x8 ∧
 (∀ J75 : Prop, ((J80 (1 : Int32)) → J75) →
 ((x8 = p1 →
 wp_X6_doesLack h this p0 v43_4 (fun x10 =>
 ((x10 = 0 →
 J75) ∧ (¬ (x10 = 0) →
 J79)))) ∧ (¬ (x8 = p1) →
 J75)))))))))))))) → J43 v43_3 v43_4) →
 J43 t39_0 (0 : Int32)) → J39 t39_0) →
 (∀ J34 : Prop, ((J39 (1 : Int32)) → J34) →
 ((p1 < (5 : Int32) →
 J34) ∧ (¬ (p1 < (5 : Int32)) →
 (∀ J19 : Prop, ((∀ J38 : Prop, ((J39 (0 : Int32)) → J38) →
 ((p1 = (6 : Int32) →
 (hT h this = 8 ∧
 (∃ a15 : Nat, hR h this 16 = some a15 ∧
 (hT h a15 = 21 ∧
 (∃ j17 : Nat, p0 = nI j17 ∧ j17 < 2147483648 ∧ j17 < hL h a15 ∧
 (∃ x18 : Int32, hI h a15 j17 = x18 ∧
 ((x18 = 0 →
 J38) ∧ (¬ (x18 = 0) →
 J34)))))))) ∧ (¬ (p1 = (6 : Int32)) →
 J38))) → J19) →
 ((p1 = (5 : Int32) →
 (hT h this = 8 ∧
 (∃ a22 : Nat, hR h this 15 = some a22 ∧
 (hT h a22 = 20 ∧
 (∃ j24 : Nat, p0 = nI j24 ∧ j24 < 2147483648 ∧ j24 < hL h a22 ∧
 (∃ x25 : Int32, hI h a22 j24 = x25 ∧
 ((0 < x25 →
 J34) ∧ (¬ (0 < x25) →
 J19)))))))) ∧ (¬ (p1 = (5 : Int32)) →
 J19)))))))
set_option maxHeartbeats 4000000 in
set_option maxRecDepth 100000 in
theorem m_X6_isDone {E : Ev} {l : Launch} (hl : l.stackTraces = false) {h : Hp} {this : Nat} {p0 : Int32} {p1 : Int32} {post : Int32 → Prop} (hw : wp_X6_isDone h this p0 p1 post) : MT E l yX6_isDone cX6_isDone 5 (some .boolean) 2 45 0 0 h [.ref this, .int p0, .int p1] (puI h post) (pxN) := by
  refine MT.of (by decide) hl (Nat.le_of_ble_eq_true rfl) (fun p e s m args below meth c C => ?_)
  unfold wp_X6_isDone at hw
  have C : CX E p l s m args meth c cX6_isDone 5 "TaktLineModel" "isDone" (some .boolean) [] := C
  show WS E p l e (rmOf 2 0 0 45) s m args below meth c 5 (vx_MQ below (qcP E (puI h post)) (xcP E (pxN)) args s 0 0 (bsA E)) h 0 0 0 [(0, .ref this), (1, .int p0), (2, .int p1)] []
  refine r_iload_n C dX6_isDone_0 rfl rfl ?_
  refine r_iconst (v := (5 : Int32)) C dX6_isDone_1 (by decide) ?_
  replace hw := hw (fun (t39_0 : Int32) => WS E p l e (rmOf 2 0 0 45) s m args below meth c 5 (vx_MQ below (qcP E (puI h post)) (xcP E (pxN)) args s 0 0 (bsA E)) h 0 0 39 [(0, .ref this), (1, .int p0), (2, .int p1)] [.int t39_0]) (by
    intro t39_0 hv
    replace hw := hv
    clear hv
    refine r_istore_n C dX6_isDone_39 rfl (by decide) [(0, .ref this), (1, .int p0), (2, .int p1), (3, .int t39_0)] ⟨rfl, rfl, rfl, rfl, trivial⟩ ?_
    refine r_iconst (v := (0 : Int32)) C dX6_isDone_40 (by decide) ?_
    refine r_istore C dX6_isDone_41 (by decide) [(0, .ref this), (1, .int p0), (2, .int p1), (3, .int t39_0), (4, .int (0 : Int32))] ⟨rfl, rfl, rfl, rfl, rfl, trivial⟩ ?_
    replace hw := hw (fun (v43_3 : Int32) (v43_4 : Int32) => WS E p l e (rmOf 2 0 0 45) s m args below meth c 5 (vx_MQ below (qcP E (puI h post)) (xcP E (pxN)) args s 0 0 (bsA E)) h 0 0 43 [(0, .ref this), (1, .int p0), (2, .int p1), (3, .int v43_3), (4, .int v43_4)] []) (by
      intro v43_3 v43_4 hv
      replace hw := hv
      clear hv
      refine r_iload C dX6_isDone_43 rfl ?_
      refine r_bipush (v := (10 : Int32)) C dX6_isDone_45 (by decide) ?_
      refine r_icmp_ge C 87 dX6_isDone_47 (by decide) (fun z1 => ?_) (fun z1 => ?_)
      · replace hw := hw.1 z1
        refine r_iload_n C dX6_isDone_87 rfl rfl ?_
        obtain ⟨y2, hw⟩ := hw
        exact r_zret C y2 dX6_isDone_88 (by decide) (by decide) ⟨_, rfl, hw, rfl⟩
      · replace hw := hw.2 z1
        refine r_iload_n C dX6_isDone_50 rfl rfl ?_
        replace hw := hw (fun (t80_0 : Int32) => WS E p l e (rmOf 2 0 0 45) s m args below meth c 5 (vx_MQ below (qcP E (puI h post)) (xcP E (pxN)) args s 0 0 (bsA E)) h 0 0 80 [(0, .ref this), (1, .int p0), (2, .int p1), (4, .int v43_4)] [.int t80_0]) (by
          intro t80_0 hv
          replace hw := hv
          clear hv
          refine r_istore_n C dX6_isDone_80 rfl (by decide) [(0, .ref this), (1, .int p0), (2, .int p1), (3, .int t80_0), (4, .int v43_4)] ⟨rfl, rfl, rfl, rfl, rfl, trivial⟩ ?_
          refine r_iinc C (v43_4 + (1 : Int32)) dX6_isDone_81 rfl rfl (by decide) [(0, .ref this), (1, .int p0), (2, .int p1), (3, .int t80_0), (4, .int (v43_4 + (1 : Int32)))] ⟨rfl, rfl, rfl, rfl, rfl, trivial⟩ ?_
          refine r_goto C 43 dX6_isDone_84 (by decide) ?_
          exact (r_subk hw ⟨rfl, rfl, rfl, rfl, rfl, trivial⟩)
          )
        replace hw := hw (WS E p l e (rmOf 2 0 0 45) s m args below meth c 5 (vx_MQ below (qcP E (puI h post)) (xcP E (pxN)) args s 0 0 (bsA E)) h 0 0 79 [(0, .ref this), (1, .int p0), (2, .int p1), (4, .int v43_4)] []) (by
          intro hv
          replace hw := hv
          clear hv
          refine r_iconst (v := (0 : Int32)) C dX6_isDone_79 (by decide) ?_
          exact (r_subk hw ⟨rfl, rfl, rfl, rfl, trivial⟩)
          )
        refine r_if_eq C 79 dX6_isDone_51 (by decide) (fun z3 => ?_) (fun z3 => ?_)
        · replace hw := hw.1 z3
          exact (r_subk hw ⟨rfl, rfl, rfl, rfl, trivial⟩)
        · replace hw := hw.2 z3
          refine r_aload_n C dX6_isDone_54 rfl rfl ?_
          obtain ⟨g4, hw⟩ := hw
          obtain ⟨a5, e5, hw⟩ := hw
          refine r_getA C K8 ob8 g4 (by decide) 1 (by decide) w_814 (fun _ z => z) e5 rfl dX6_isDone_55 ?_
          refine r_iload C dX6_isDone_58 rfl ?_
          obtain ⟨g6, hw⟩ := hw
          obtain ⟨j7, f7, l7, k7, hw⟩ := hw
          obtain ⟨x8, e8, hw⟩ := hw
          refine a_I C g6 f7 l7 k7 e8 dX6_isDone_60 ?_
          refine r_iload_n C dX6_isDone_61 rfl rfl ?_
          replace hw := hw (WS E p l e (rmOf 2 0 0 45) s m args below meth c 5 (vx_MQ below (qcP E (puI h post)) (xcP E (pxN)) args s 0 0 (bsA E)) h 0 0 75 [(0, .ref this), (1, .int p0), (2, .int p1), (4, .int v43_4)] []) (by
            intro hv
            replace hw := hv
            clear hv
            refine r_iconst (v := (1 : Int32)) C dX6_isDone_75 (by decide) ?_
            refine r_goto C 80 dX6_isDone_76 (by decide) ?_
            exact (r_subk hw ⟨rfl, rfl, rfl, rfl, trivial⟩)
            )
          refine r_icmp_ne C 75 dX6_isDone_62 (by decide) (fun z9 => ?_) (fun z9 => ?_)
          · replace hw := hw.2 z9
            exact (r_subk hw ⟨rfl, rfl, rfl, rfl, trivial⟩)
          · replace hw := hw.1 z9
            refine r_aload_n C dX6_isDone_65 rfl rfl ?_
            refine r_iload_n C dX6_isDone_66 rfl rfl ?_
            refine r_iload C dX6_isDone_67 rfl ?_
            refine r_callV (As := [.int p0, .int v43_4]) (st := []) C (m_X6_doesLack hl hw) v_X6_doesLack w_959 K8 g4 (by decide) ob8 rfl ⟨leb rfl, leb rfl⟩ ⟨leb rfl, leb rfl⟩ rfl (leb rfl) dX6_isDone_69 (fun _ _ z => z.elim) (kpI (K := fun hK sK => WS E p l e (rmOf 2 0 0 45) s m args below meth c 5 (vx_MQ below (qcP E (puI h post)) (xcP E (pxN)) args s 0 0 (bsA E)) hK (0 + 0) (0 + 0) (69 + 3) [(0, .ref this), (1, .int p0), (2, .int p1), (3, .int v43_3), (4, .int v43_4)] sK) (fun x10 hv => ?_))
            replace hw := hv
            clear hv
            refine r_if_ne C 79 dX6_isDone_72 (by decide) (fun z11 => ?_) (fun z11 => ?_)
            · replace hw := hw.2 z11
              exact (r_subk hw ⟨rfl, rfl, rfl, rfl, trivial⟩)
            · replace hw := hw.1 z11
              exact (r_subk hw ⟨rfl, rfl, rfl, rfl, trivial⟩)
      )
    exact (r_subk hw ⟨rfl, rfl, rfl, rfl, rfl, trivial⟩)
    )
  replace hw := hw (WS E p l e (rmOf 2 0 0 45) s m args below meth c 5 (vx_MQ below (qcP E (puI h post)) (xcP E (pxN)) args s 0 0 (bsA E)) h 0 0 34 [(0, .ref this), (1, .int p0), (2, .int p1)] []) (by
    intro hv
    replace hw := hv
    clear hv
    refine r_iconst (v := (1 : Int32)) C dX6_isDone_34 (by decide) ?_
    refine r_goto C 39 dX6_isDone_35 (by decide) ?_
    exact (r_subk hw ⟨rfl, rfl, rfl, trivial⟩)
    )
  refine r_icmp_lt C 34 dX6_isDone_2 (by decide) (fun z12 => ?_) (fun z12 => ?_)
  · replace hw := hw.1 z12
    exact (r_subk hw ⟨rfl, rfl, rfl, trivial⟩)
  · replace hw := hw.2 z12
    refine r_iload_n C dX6_isDone_5 rfl rfl ?_
    refine r_iconst (v := (5 : Int32)) C dX6_isDone_6 (by decide) ?_
    replace hw := hw (WS E p l e (rmOf 2 0 0 45) s m args below meth c 5 (vx_MQ below (qcP E (puI h post)) (xcP E (pxN)) args s 0 0 (bsA E)) h 0 0 19 [(0, .ref this), (1, .int p0), (2, .int p1)] []) (by
      intro hv
      replace hw := hv
      clear hv
      refine r_iload_n C dX6_isDone_19 rfl rfl ?_
      refine r_bipush (v := (6 : Int32)) C dX6_isDone_20 (by decide) ?_
      replace hw := hw (WS E p l e (rmOf 2 0 0 45) s m args below meth c 5 (vx_MQ below (qcP E (puI h post)) (xcP E (pxN)) args s 0 0 (bsA E)) h 0 0 38 [(0, .ref this), (1, .int p0), (2, .int p1)] []) (by
        intro hv
        replace hw := hv
        clear hv
        refine r_iconst (v := (0 : Int32)) C dX6_isDone_38 (by decide) ?_
        exact (r_subk hw ⟨rfl, rfl, rfl, trivial⟩)
        )
      refine r_icmp_ne C 38 dX6_isDone_22 (by decide) (fun z13 => ?_) (fun z13 => ?_)
      · replace hw := hw.2 z13
        exact (r_subk hw ⟨rfl, rfl, rfl, trivial⟩)
      · replace hw := hw.1 z13
        refine r_aload_n C dX6_isDone_25 rfl rfl ?_
        obtain ⟨g14, hw⟩ := hw
        obtain ⟨a15, e15, hw⟩ := hw
        refine r_getA C K8 ob8 g14 (by decide) 16 (by decide) w_829 (fun _ z => z) e15 rfl dX6_isDone_26 ?_
        refine r_iload_n C dX6_isDone_29 rfl rfl ?_
        obtain ⟨g16, hw⟩ := hw
        obtain ⟨j17, f17, l17, k17, hw⟩ := hw
        obtain ⟨x18, e18, hw⟩ := hw
        refine a_B C g16 f17 l17 k17 e18 dX6_isDone_30 ?_
        refine r_if_eq C 38 dX6_isDone_31 (by decide) (fun z19 => ?_) (fun z19 => ?_)
        · replace hw := hw.1 z19
          exact (r_subk hw ⟨rfl, rfl, rfl, trivial⟩)
        · replace hw := hw.2 z19
          exact (r_subk hw ⟨rfl, rfl, rfl, trivial⟩)
      )
    refine r_icmp_ne C 19 dX6_isDone_7 (by decide) (fun z20 => ?_) (fun z20 => ?_)
    · replace hw := hw.2 z20
      exact (r_subk hw ⟨rfl, rfl, rfl, trivial⟩)
    · replace hw := hw.1 z20
      refine r_aload_n C dX6_isDone_10 rfl rfl ?_
      obtain ⟨g21, hw⟩ := hw
      obtain ⟨a22, e22, hw⟩ := hw
      refine r_getA C K8 ob8 g21 (by decide) 15 (by decide) w_828 (fun _ z => z) e22 rfl dX6_isDone_11 ?_
      refine r_iload_n C dX6_isDone_14 rfl rfl ?_
      obtain ⟨g23, hw⟩ := hw
      obtain ⟨j24, f24, l24, k24, hw⟩ := hw
      obtain ⟨x25, e25, hw⟩ := hw
      refine a_I C g23 f24 l24 k24 e25 dX6_isDone_15 ?_
      refine r_if_gt C 34 dX6_isDone_16 (by decide) (fun z26 => ?_) (fun z26 => ?_)
      · replace hw := hw.1 z26
        exact (r_subk hw ⟨rfl, rfl, rfl, trivial⟩)
      · replace hw := hw.2 z26
        exact (r_subk hw ⟨rfl, rfl, rfl, trivial⟩)
theorem v_X6_isDone : MV yX6_isDone cX6_isDone 5 (some .boolean) 2 := ⟨w_1055, w_1054, w_49, w_60, ⟨by decide +kernel, by decide +kernel, by decide +kernel⟩⟩

def wp_X6_sendBack (h : Hp) (this : Nat) (p0 : Int32) (post : Hp → Prop) : Prop :=
(hT h this = 8 ∧
 (∃ a2 : Nat, hR h this 19 = some a2 ∧
 (hT h a2 = 20 ∧
 (∃ j4 : Nat, p0 = nI j4 ∧ j4 < 2147483648 ∧ j4 < hL h a2 ∧
 (∃ x5 : Int32, hI h a2 j4 = x5 ∧
 wp_X6_backTo h this (x5 - (1 : Int32)) p0 (fun x6 =>
 (∀ J60 : Int32 → Hp → Prop, (∀ (v60_3 : Int32) (h60_ : Hp), (∀ J106 : Hp → Prop, (∀ (h106_ : Hp), (post h106_) → J106 h106_) →
 ((v60_3 = (-1 : Int32) →
 J106 h60_) ∧ (¬ (v60_3 = (-1 : Int32)) →
 (hT h60_ this = 8 ∧
 (∃ a9 : Nat, hR h60_ this 19 = some a9 ∧
 (hT h60_ a9 = 20 ∧
 (∃ j11 : Nat, p0 = nI j11 ∧ j11 < 2147483648 ∧ j11 < hL h60_ a9 ∧
 (∀ h12, h12 = sI h60_ a9 j11 (0 : Int32) →
 (∃ a14 : Nat, hR h12 this 12 = some a14 ∧
 (hT h12 a14 = 20 ∧
 (∃ j16 : Nat, x5 - (1 : Int32) = nI j16 ∧ j16 < 2147483648 ∧ j16 < hL h12 a14 ∧
 (∀ h17, h17 = sI h12 a14 j16 (2 : Int32) →
 (∃ a19 : Nat, hR h17 this 13 = some a19 ∧
 (hT h17 a19 = 20 ∧
 (∃ j21 : Nat, x5 - (1 : Int32) = nI j21 ∧ j21 < 2147483648 ∧ j21 < hL h17 a19 ∧
 (∀ h22, h22 = sI h17 a19 j21 v60_3 →
 (∃ a24 : Nat, hR h22 this 20 = some a24 ∧
 (∃ x25 : Int32, hI h22 this 21 = x25 ∧
 (hT h22 a24 = 20 ∧
 (∃ j27 : Nat, x25 = nI j27 ∧ j27 < 2147483648 ∧ j27 < hL h22 a24 ∧
 (∀ h28, h28 = sI h22 a24 j27 (x5 - (1 : Int32)) →
 (∃ x30 : Int32, hI h28 this 21 = x30 ∧
 (∀ h31, h31 = sI h28 this 21 (x30 + (1 : Int32)) →
 J106 h31))))))))))))))))))))))) → J60 v60_3 h60_) →
 ((x6 = (-1 : Int32) →
 (∀ J51 : Prop, ((∃ a33 : Nat, hR h this 17 = some a33 ∧
 (hT h a33 = 21 ∧
 (∃ j35 : Nat, x5 - (1 : Int32) = nI j35 ∧ j35 < 2147483648 ∧ j35 < hL h a33 ∧
 (∀ h36, h36 = sI h a33 j35 (0 : Int32) →
 J60 (5 : Int32) h36)))) → J51) →
 (∀ J36 : Prop, (((p0 = (7 : Int32) →
 (∃ a38 : Nat, hR h this 16 = some a38 ∧
 (hT h a38 = 21 ∧
 (∃ j40 : Nat, x5 - (1 : Int32) = nI j40 ∧ j40 < 2147483648 ∧ j40 < hL h a38 ∧
 (∃ x41 : Int32, hI h a38 j40 = x41 ∧
 ((x41 = 0 →
 J51) ∧ (¬ (x41 = 0) →
 J60 x6 h))))))) ∧ (¬ (p0 = (7 : Int32)) →
 J60 x6 h)) → J36) →
 ((p0 = (6 : Int32) →
 (∃ a44 : Nat, hR h this 17 = some a44 ∧
 (hT h a44 = 21 ∧
 (∃ j46 : Nat, x5 - (1 : Int32) = nI j46 ∧ j46 < 2147483648 ∧ j46 < hL h a44 ∧
 (∃ x47 : Int32, hI h a44 j46 = x47 ∧
 ((x47 = 0 →
 J36) ∧ (¬ (x47 = 0) →
 J51))))))) ∧ (¬ (p0 = (6 : Int32)) →
 J36))))) ∧ (¬ (x6 = (-1 : Int32)) →
 J60 x6 h)))))))))
set_option maxHeartbeats 4000000 in
set_option maxRecDepth 100000 in
theorem m_X6_sendBack {E : Ev} {l : Launch} (hl : l.stackTraces = false) {h : Hp} {this : Nat} {p0 : Int32} {post : Hp → Prop} (hw : wp_X6_sendBack h this p0 post) : MT E l yX6_sendBack cX6_sendBack 4 none 3 70 0 0 h [.ref this, .int p0] (poV post) (pxN) := by
  refine MT.of (by decide) hl (Nat.le_of_ble_eq_true rfl) (fun p e s m args below meth c C => ?_)
  unfold wp_X6_sendBack at hw
  have C : CX E p l s m args meth c cX6_sendBack 4 "TaktLineModel" "sendBack" none [] := C
  show WS E p l e (rmOf 3 0 0 70) s m args below meth c 4 (vx_MQ below (qcP E (poV post)) (xcP E (pxN)) args s 0 0 (bsA E)) h 0 0 0 [(0, .ref this), (1, .int p0)] []
  refine r_aload_n C dX6_sendBack_0 rfl rfl ?_
  obtain ⟨g1, hw⟩ := hw
  obtain ⟨a2, e2, hw⟩ := hw
  refine r_getA C K8 ob8 g1 (by decide) 19 (by decide) w_832 (fun _ z => z) e2 rfl dX6_sendBack_1 ?_
  refine r_iload_n C dX6_sendBack_4 rfl rfl ?_
  obtain ⟨g3, hw⟩ := hw
  obtain ⟨j4, f4, l4, k4, hw⟩ := hw
  obtain ⟨x5, e5, hw⟩ := hw
  refine a_I C g3 f4 l4 k4 e5 dX6_sendBack_5 ?_
  refine r_iconst (v := (1 : Int32)) C dX6_sendBack_6 (by decide) ?_
  refine r_isub C dX6_sendBack_7 ?_
  refine r_istore_n C dX6_sendBack_8 rfl (by decide) [(0, .ref this), (1, .int p0), (2, .int (x5 - (1 : Int32)))] ⟨rfl, rfl, rfl, trivial⟩ ?_
  refine r_aload_n C dX6_sendBack_9 rfl rfl ?_
  refine r_iload_n C dX6_sendBack_10 rfl rfl ?_
  refine r_iload_n C dX6_sendBack_11 rfl rfl ?_
  refine r_callV (As := [.int (x5 - (1 : Int32)), .int p0]) (st := []) C (m_X6_backTo hl hw) v_X6_backTo w_1044 K8 g1 (by decide) ob8 rfl ⟨leb rfl, leb rfl⟩ ⟨leb rfl, leb rfl⟩ rfl (leb rfl) dX6_sendBack_12 (fun _ _ z => z.elim) (kpI (K := fun hK sK => WS E p l e (rmOf 3 0 0 70) s m args below meth c 4 (vx_MQ below (qcP E (poV post)) (xcP E (pxN)) args s 0 0 (bsA E)) hK (0 + 0) (0 + 0) (12 + 3) [(0, .ref this), (1, .int p0), (2, .int (x5 - (1 : Int32)))] sK) (fun x6 hv => ?_))
  replace hw := hv
  clear hv
  refine r_istore_n C dX6_sendBack_15 rfl (by decide) [(0, .ref this), (1, .int p0), (2, .int (x5 - (1 : Int32))), (3, .int x6)] ⟨rfl, rfl, rfl, rfl, trivial⟩ ?_
  refine r_iload_n C dX6_sendBack_16 rfl rfl ?_
  refine r_iconst (v := (-1 : Int32)) C dX6_sendBack_17 (by decide) ?_
  replace hw := hw (fun (v60_3 : Int32) (h60_ : Hp) => WS E p l e (rmOf 3 0 0 70) s m args below meth c 4 (vx_MQ below (qcP E (poV post)) (xcP E (pxN)) args s 0 0 (bsA E)) h60_ 0 0 60 [(0, .ref this), (1, .int p0), (2, .int (x5 - (1 : Int32))), (3, .int v60_3)] []) (by
    intro v60_3 h60_ hv
    replace hw := hv
    clear hv
    refine r_iload_n C dX6_sendBack_60 rfl rfl ?_
    refine r_iconst (v := (-1 : Int32)) C dX6_sendBack_61 (by decide) ?_
    replace hw := hw (fun (h106_ : Hp) => WS E p l e (rmOf 3 0 0 70) s m args below meth c 4 (vx_MQ below (qcP E (poV post)) (xcP E (pxN)) args s 0 0 (bsA E)) h106_ 0 0 106 [] []) (by
      intro h106_ hv
      replace hw := hv
      clear hv
      exact r_vret C dX6_sendBack_106 (by decide) (by decide) ⟨rfl, hw⟩
      )
    refine r_icmp_eq C 106 dX6_sendBack_62 (by decide) (fun z7 => ?_) (fun z7 => ?_)
    · replace hw := hw.1 z7
      exact (r_subk hw trivial)
    · replace hw := hw.2 z7
      refine r_aload_n C dX6_sendBack_65 rfl rfl ?_
      obtain ⟨g8, hw⟩ := hw
      obtain ⟨a9, e9, hw⟩ := hw
      refine r_getA C K8 ob8 g8 (by decide) 19 (by decide) w_832 (fun _ z => z) e9 rfl dX6_sendBack_66 ?_
      refine r_iload_n C dX6_sendBack_69 rfl rfl ?_
      refine r_iconst (v := (0 : Int32)) C dX6_sendBack_70 (by decide) ?_
      obtain ⟨g10, hw⟩ := hw
      obtain ⟨j11, f11, l11, k11, hw⟩ := hw
      obtain ⟨h12, eh12⟩ : ∃ z, z = sI h60_ a9 j11 (0 : Int32) := ⟨_, rfl⟩
      replace hw := hw h12 eh12
      refine s_I C g10 f11 l11 k11 dX6_sendBack_71 eh12 ?_
      refine r_aload_n C dX6_sendBack_72 rfl rfl ?_
      have g13 : hT h12 this = 8 := by rw [eh12]; exact g8
      obtain ⟨a14, e14, hw⟩ := hw
      refine r_getA C K8 ob8 g13 (by decide) 12 (by decide) w_825 (fun _ z => z) e14 rfl dX6_sendBack_73 ?_
      refine r_iload_n C dX6_sendBack_76 rfl rfl ?_
      refine r_iconst (v := (2 : Int32)) C dX6_sendBack_77 (by decide) ?_
      obtain ⟨g15, hw⟩ := hw
      obtain ⟨j16, f16, l16, k16, hw⟩ := hw
      obtain ⟨h17, eh17⟩ : ∃ z, z = sI h12 a14 j16 (2 : Int32) := ⟨_, rfl⟩
      replace hw := hw h17 eh17
      refine s_I C g15 f16 l16 k16 dX6_sendBack_78 eh17 ?_
      refine r_aload_n C dX6_sendBack_79 rfl rfl ?_
      have g18 : hT h17 this = 8 := by rw [eh17]; exact g13
      obtain ⟨a19, e19, hw⟩ := hw
      refine r_getA C K8 ob8 g18 (by decide) 13 (by decide) w_826 (fun _ z => z) e19 rfl dX6_sendBack_80 ?_
      refine r_iload_n C dX6_sendBack_83 rfl rfl ?_
      refine r_iload_n C dX6_sendBack_84 rfl rfl ?_
      obtain ⟨g20, hw⟩ := hw
      obtain ⟨j21, f21, l21, k21, hw⟩ := hw
      obtain ⟨h22, eh22⟩ : ∃ z, z = sI h17 a19 j21 v60_3 := ⟨_, rfl⟩
      replace hw := hw h22 eh22
      refine s_I C g20 f21 l21 k21 dX6_sendBack_85 eh22 ?_
      refine r_aload_n C dX6_sendBack_86 rfl rfl ?_
      have g23 : hT h22 this = 8 := by rw [eh22]; exact g18
      obtain ⟨a24, e24, hw⟩ := hw
      refine r_getA C K8 ob8 g23 (by decide) 20 (by decide) w_833 (fun _ z => z) e24 rfl dX6_sendBack_87 ?_
      refine r_aload_n C dX6_sendBack_90 rfl rfl ?_
      obtain ⟨x25, e25, hw⟩ := hw
      refine r_getI C K8 ob8 g23 (by decide) 21 (by decide) w_834 (fun _ z => z) e25 rfl dX6_sendBack_91 ?_
      refine r_iload_n C dX6_sendBack_94 rfl rfl ?_
      obtain ⟨g26, hw⟩ := hw
      obtain ⟨j27, f27, l27, k27, hw⟩ := hw
      obtain ⟨h28, eh28⟩ : ∃ z, z = sI h22 a24 j27 (x5 - (1 : Int32)) := ⟨_, rfl⟩
      replace hw := hw h28 eh28
      refine s_I C g26 f27 l27 k27 dX6_sendBack_95 eh28 ?_
      refine r_aload_n C dX6_sendBack_96 rfl rfl ?_
      refine r_dup C dX6_sendBack_97 rfl ?_
      have g29 : hT h28 this = 8 := by rw [eh28]; exact g23
      obtain ⟨x30, e30, hw⟩ := hw
      refine r_getI C K8 ob8 g29 (by decide) 21 (by decide) w_834 (fun _ z => z) e30 rfl dX6_sendBack_98 ?_
      refine r_iconst (v := (1 : Int32)) C dX6_sendBack_101 (by decide) ?_
      refine r_iadd C dX6_sendBack_102 ?_
      obtain ⟨h31, eh31⟩ : ∃ z, z = sI h28 this 21 (x30 + (1 : Int32)) := ⟨_, rfl⟩
      replace hw := hw h31 eh31
      refine p_I C K8 ob8 g29 (by decide) 21 (by decide) w_834 (fun _ z => z) rfl (by decide +kernel) (Nat.le_of_ble_eq_true rfl) rfl dX6_sendBack_103 eh31 ?_
      exact (r_subk hw trivial)
    )
  refine r_icmp_ne C 60 dX6_sendBack_18 (by decide) (fun z32 => ?_) (fun z32 => ?_)
  · replace hw := hw.2 z32
    exact (r_subk hw ⟨rfl, rfl, rfl, rfl, trivial⟩)
  · replace hw := hw.1 z32
    refine r_iload_n C dX6_sendBack_21 rfl rfl ?_
    refine r_bipush (v := (6 : Int32)) C dX6_sendBack_22 (by decide) ?_
    replace hw := hw (WS E p l e (rmOf 3 0 0 70) s m args below meth c 4 (vx_MQ below (qcP E (poV post)) (xcP E (pxN)) args s 0 0 (bsA E)) h 0 0 51 [(0, .ref this), (1, .int p0), (2, .int (x5 - (1 : Int32)))] []) (by
      intro hv
      replace hw := hv
      clear hv
      refine r_iconst (v := (5 : Int32)) C dX6_sendBack_51 (by decide) ?_
      refine r_istore_n C dX6_sendBack_52 rfl (by decide) [(0, .ref this), (1, .int p0), (2, .int (x5 - (1 : Int32))), (3, .int (5 : Int32))] ⟨rfl, rfl, rfl, rfl, trivial⟩ ?_
      refine r_aload_n C dX6_sendBack_53 rfl rfl ?_
      obtain ⟨a33, e33, hw⟩ := hw
      refine r_getA C K8 ob8 g1 (by decide) 17 (by decide) w_830 (fun _ z => z) e33 rfl dX6_sendBack_54 ?_
      refine r_iload_n C dX6_sendBack_57 rfl rfl ?_
      refine r_iconst (v := (0 : Int32)) C dX6_sendBack_58 (by decide) ?_
      obtain ⟨g34, hw⟩ := hw
      obtain ⟨j35, f35, l35, k35, hw⟩ := hw
      obtain ⟨h36, eh36⟩ : ∃ z, z = sI h a33 j35 (0 : Int32) := ⟨_, rfl⟩
      replace hw := hw h36 eh36
      refine s_B C g34 f35 l35 k35 (Or.inl rfl) dX6_sendBack_59 eh36 ?_
      exact (r_subk hw ⟨rfl, rfl, rfl, rfl, trivial⟩)
      )
    replace hw := hw (WS E p l e (rmOf 3 0 0 70) s m args below meth c 4 (vx_MQ below (qcP E (poV post)) (xcP E (pxN)) args s 0 0 (bsA E)) h 0 0 36 [(0, .ref this), (1, .int p0), (2, .int (x5 - (1 : Int32))), (3, .int x6)] []) (by
      intro hv
      replace hw := hv
      clear hv
      refine r_iload_n C dX6_sendBack_36 rfl rfl ?_
      refine r_bipush (v := (7 : Int32)) C dX6_sendBack_37 (by decide) ?_
      refine r_icmp_ne C 60 dX6_sendBack_39 (by decide) (fun z37 => ?_) (fun z37 => ?_)
      · replace hw := hw.2 z37
        exact (r_subk hw ⟨rfl, rfl, rfl, rfl, trivial⟩)
      · replace hw := hw.1 z37
        refine r_aload_n C dX6_sendBack_42 rfl rfl ?_
        obtain ⟨a38, e38, hw⟩ := hw
        refine r_getA C K8 ob8 g1 (by decide) 16 (by decide) w_829 (fun _ z => z) e38 rfl dX6_sendBack_43 ?_
        refine r_iload_n C dX6_sendBack_46 rfl rfl ?_
        obtain ⟨g39, hw⟩ := hw
        obtain ⟨j40, f40, l40, k40, hw⟩ := hw
        obtain ⟨x41, e41, hw⟩ := hw
        refine a_B C g39 f40 l40 k40 e41 dX6_sendBack_47 ?_
        refine r_if_ne C 60 dX6_sendBack_48 (by decide) (fun z42 => ?_) (fun z42 => ?_)
        · replace hw := hw.2 z42
          exact (r_subk hw ⟨rfl, rfl, rfl, rfl, trivial⟩)
        · replace hw := hw.1 z42
          exact (r_subk hw ⟨rfl, rfl, rfl, trivial⟩)
      )
    refine r_icmp_ne C 36 dX6_sendBack_24 (by decide) (fun z43 => ?_) (fun z43 => ?_)
    · replace hw := hw.2 z43
      exact (r_subk hw ⟨rfl, rfl, rfl, rfl, trivial⟩)
    · replace hw := hw.1 z43
      refine r_aload_n C dX6_sendBack_27 rfl rfl ?_
      obtain ⟨a44, e44, hw⟩ := hw
      refine r_getA C K8 ob8 g1 (by decide) 17 (by decide) w_830 (fun _ z => z) e44 rfl dX6_sendBack_28 ?_
      refine r_iload_n C dX6_sendBack_31 rfl rfl ?_
      obtain ⟨g45, hw⟩ := hw
      obtain ⟨j46, f46, l46, k46, hw⟩ := hw
      obtain ⟨x47, e47, hw⟩ := hw
      refine a_B C g45 f46 l46 k46 e47 dX6_sendBack_32 ?_
      refine r_if_ne C 51 dX6_sendBack_33 (by decide) (fun z48 => ?_) (fun z48 => ?_)
      · replace hw := hw.2 z48
        exact (r_subk hw ⟨rfl, rfl, rfl, trivial⟩)
      · replace hw := hw.1 z48
        exact (r_subk hw ⟨rfl, rfl, rfl, rfl, trivial⟩)
theorem v_X6_sendBack : MV yX6_sendBack cX6_sendBack 4 none 1 := ⟨w_1043, w_1042, w_46, w_60, ⟨by decide +kernel, by decide +kernel, by decide +kernel⟩⟩

def wp_X6_comeTo (h : Hp) (this : Nat) (p0 : Int32) (p1 : Int32) (post : Hp → Prop) : Prop :=
(hT h this = 8 ∧
 (∃ a2 : Nat, hR h this 19 = some a2 ∧
 (hT h a2 = 20 ∧
 (∃ j4 : Nat, p1 = nI j4 ∧ j4 < 2147483648 ∧ j4 < hL h a2 ∧
 (∀ h5, h5 = sI h a2 j4 (p0 + (1 : Int32)) →
 (∃ a7 : Nat, hR h5 this 12 = some a7 ∧
 (hT h5 a7 = 20 ∧
 (∃ j9 : Nat, p0 = nI j9 ∧ j9 < 2147483648 ∧ j9 < hL h5 a7 ∧
 (∀ h10, h10 = sI h5 a7 j9 (1 : Int32) →
 (∃ a12 : Nat, hR h10 this 13 = some a12 ∧
 (hT h10 a12 = 20 ∧
 (∃ j14 : Nat, p0 = nI j14 ∧ j14 < 2147483648 ∧ j14 < hL h10 a12 ∧
 (∀ h15, h15 = sI h10 a12 j14 p1 →
 post h15)))))))))))))
set_option maxHeartbeats 4000000 in
set_option maxRecDepth 100000 in
theorem m_X6_comeTo {E : Ev} {l : Launch} (hl : l.stackTraces = false) {h : Hp} {this : Nat} {p0 : Int32} {p1 : Int32} {post : Hp → Prop} (hw : wp_X6_comeTo h this p0 p1 post) : MT E l yX6_comeTo cX6_comeTo 3 none 0 0 0 0 h [.ref this, .int p0, .int p1] (poV post) (pxN) := by
  refine MT.of (by decide) hl (Nat.le_of_ble_eq_true rfl) (fun p e s m args below meth c C => ?_)
  unfold wp_X6_comeTo at hw
  have C : CX E p l s m args meth c cX6_comeTo 3 "TaktLineModel" "comeTo" none [] := C
  show WS E p l e (rmOf 0 0 0 0) s m args below meth c 3 (vx_MQ below (qcP E (poV post)) (xcP E (pxN)) args s 0 0 (bsA E)) h 0 0 0 [(0, .ref this), (1, .int p0), (2, .int p1)] []
  refine r_aload_n C dX6_comeTo_0 rfl rfl ?_
  obtain ⟨g1, hw⟩ := hw
  obtain ⟨a2, e2, hw⟩ := hw
  refine r_getA C K8 ob8 g1 (by decide) 19 (by decide) w_832 (fun _ z => z) e2 rfl dX6_comeTo_1 ?_
  refine r_iload_n C dX6_comeTo_4 rfl rfl ?_
  refine r_iload_n C dX6_comeTo_5 rfl rfl ?_
  refine r_iconst (v := (1 : Int32)) C dX6_comeTo_6 (by decide) ?_
  refine r_iadd C dX6_comeTo_7 ?_
  obtain ⟨g3, hw⟩ := hw
  obtain ⟨j4, f4, l4, k4, hw⟩ := hw
  obtain ⟨h5, eh5⟩ : ∃ z, z = sI h a2 j4 (p0 + (1 : Int32)) := ⟨_, rfl⟩
  replace hw := hw h5 eh5
  refine s_I C g3 f4 l4 k4 dX6_comeTo_8 eh5 ?_
  refine r_aload_n C dX6_comeTo_9 rfl rfl ?_
  have g6 : hT h5 this = 8 := by rw [eh5]; exact g1
  obtain ⟨a7, e7, hw⟩ := hw
  refine r_getA C K8 ob8 g6 (by decide) 12 (by decide) w_825 (fun _ z => z) e7 rfl dX6_comeTo_10 ?_
  refine r_iload_n C dX6_comeTo_13 rfl rfl ?_
  refine r_iconst (v := (1 : Int32)) C dX6_comeTo_14 (by decide) ?_
  obtain ⟨g8, hw⟩ := hw
  obtain ⟨j9, f9, l9, k9, hw⟩ := hw
  obtain ⟨h10, eh10⟩ : ∃ z, z = sI h5 a7 j9 (1 : Int32) := ⟨_, rfl⟩
  replace hw := hw h10 eh10
  refine s_I C g8 f9 l9 k9 dX6_comeTo_15 eh10 ?_
  refine r_aload_n C dX6_comeTo_16 rfl rfl ?_
  have g11 : hT h10 this = 8 := by rw [eh10]; exact g6
  obtain ⟨a12, e12, hw⟩ := hw
  refine r_getA C K8 ob8 g11 (by decide) 13 (by decide) w_826 (fun _ z => z) e12 rfl dX6_comeTo_17 ?_
  refine r_iload_n C dX6_comeTo_20 rfl rfl ?_
  refine r_iload_n C dX6_comeTo_21 rfl rfl ?_
  obtain ⟨g13, hw⟩ := hw
  obtain ⟨j14, f14, l14, k14, hw⟩ := hw
  obtain ⟨h15, eh15⟩ : ∃ z, z = sI h10 a12 j14 p1 := ⟨_, rfl⟩
  replace hw := hw h15 eh15
  refine s_I C g13 f14 l14 k14 dX6_comeTo_22 eh15 ?_
  exact r_vret C dX6_comeTo_23 (by decide) (by decide) ⟨rfl, hw⟩
theorem v_X6_comeTo : MV yX6_comeTo cX6_comeTo 3 none 2 := ⟨w_1059, w_1058, w_50, w_60, ⟨by decide +kernel, by decide +kernel, by decide +kernel⟩⟩

def wp_X6_moveOn (h : Hp) (this : Nat) (post : Int32 → Hp → Prop) : Prop :=
(hT h this = 8 ∧
 (∃ a2 : Nat, hR h this 19 = some a2 ∧
 (hT h a2 = 20 ∧
 (7 < hL h a2 ∧
 (∃ x5 : Int32, hI h a2 7 = x5 ∧
 (∀ J59 : Int32 → Hp → Prop, (∀ (v59_1 : Int32) (h59_ : Hp), (∀ J62 : Int32 → Hp → Prop, (∀ (v62_3 : Int32) (h62_ : Hp), ((v62_3 < 0 →
 post v59_1 h62_) ∧ (¬ (v62_3 < 0) →
 (hT h62_ this = 8 ∧
 (∃ a8 : Nat, hR h62_ this 19 = some a8 ∧
 (hT h62_ a8 = 20 ∧
 (∃ j10 : Nat, v62_3 = nI j10 ∧ j10 < 2147483648 ∧ j10 < hL h62_ a8 ∧
 (∃ x11 : Int32, hI h62_ a8 j10 = x11 ∧
 (∀ J119 : Hp → Prop, (∀ (h119_ : Hp), (J62 (v62_3 + (-1 : Int32)) h119_) → J119 h119_) →
 (((x11 - (1 : Int32)) = (-1 : Int32) →
 J119 h62_) ∧ (¬ ((x11 - (1 : Int32)) = (-1 : Int32)) →
 (∃ a13 : Nat, hR h62_ this 19 = some a13 ∧
 (hT h62_ a13 = 20 ∧
 (∃ j15 : Nat, v62_3 + (1 : Int32) = nI j15 ∧ j15 < 2147483648 ∧ j15 < hL h62_ a13 ∧
 (∃ x16 : Int32, hI h62_ a13 j15 = x16 ∧
 ((x16 = 0 →
 wp_X6_isDone h62_ this (x11 - (1 : Int32)) v62_3 (fun x18 =>
 ((x18 = 0 →
 J119 h62_) ∧ (¬ (x18 = 0) →
 (∃ a20 : Nat, hR h62_ this 19 = some a20 ∧
 (hT h62_ a20 = 20 ∧
 (∃ j22 : Nat, v62_3 = nI j22 ∧ j22 < 2147483648 ∧ j22 < hL h62_ a20 ∧
 (∀ h23, h23 = sI h62_ a20 j22 (0 : Int32) →
 wp_X6_comeTo h23 this (x11 - (1 : Int32)) (v62_3 + (1 : Int32)) (fun h24 =>
 J119 h24))))))))) ∧ (¬ (x16 = 0) →
 J119 h62_)))))))))))))))) → J62 v62_3 h62_) →
 J62 (6 : Int32) h59_) → J59 v59_1 h59_) →
 (((x5 - (1 : Int32)) = (-1 : Int32) →
 J59 (0 : Int32) h) ∧ (¬ ((x5 - (1 : Int32)) = (-1 : Int32)) →
 wp_X6_lacked h this (x5 - (1 : Int32)) (fun x27 =>
 ((x27 = 0 →
 (∃ a29 : Nat, hR h this 16 = some a29 ∧
 (hT h a29 = 21 ∧
 (∃ j31 : Nat, x5 - (1 : Int32) = nI j31 ∧ j31 < 2147483648 ∧ j31 < hL h a29 ∧
 (∃ x32 : Int32, hI h a29 j31 = x32 ∧
 ((x32 = 0 →
 J59 (0 : Int32) h) ∧ (¬ (x32 = 0) →
 wp_X6_fits h this (x5 - (1 : Int32)) (fun x34 h34 =>
 ((x34 = 0 →
 J59 (0 : Int32) h34) ∧ (¬ (x34 = 0) →
 (hT h34 this = 8 ∧
 (∃ a37 : Nat, hR h34 this 19 = some a37 ∧
 (hT h34 a37 = 20 ∧
 (7 < hL h34 a37 ∧
 (∀ h40, h40 = sI h34 a37 7 (0 : Int32) →
 (∃ a42 : Nat, hR h40 this 12 = some a42 ∧
 (hT h40 a42 = 20 ∧
 (∃ j44 : Nat, x5 - (1 : Int32) = nI j44 ∧ j44 < 2147483648 ∧ j44 < hL h40 a42 ∧
 (∀ h45, h45 = sI h40 a42 j44 (3 : Int32) →
 J59 (1 : Int32) h45))))))))))))))))))) ∧ (¬ (x27 = 0) →
 J59 (0 : Int32) h)))))))))))
set_option maxHeartbeats 4000000 in
set_option maxRecDepth 100000 in
theorem m_X6_moveOn {E : Ev} {l : Launch} (hl : l.stackTraces = false) {h : Hp} {this : Nat} {post : Int32 → Hp → Prop} (hw : wp_X6_moveOn h this post) : MT E l yX6_moveOn cX6_moveOn 5 (some .int) 3 69 0 0 h [.ref this] (poI post) (pxN) := by
  refine MT.of (by decide) hl (Nat.le_of_ble_eq_true rfl) (fun p e s m args below meth c C => ?_)
  unfold wp_X6_moveOn at hw
  have C : CX E p l s m args meth c cX6_moveOn 5 "TaktLineModel" "moveOn" (some .int) [] := C
  show WS E p l e (rmOf 3 0 0 69) s m args below meth c 5 (vx_MQ below (qcP E (poI post)) (xcP E (pxN)) args s 0 0 (bsA E)) h 0 0 0 [(0, .ref this)] []
  refine r_iconst (v := (0 : Int32)) C dX6_moveOn_0 (by decide) ?_
  refine r_istore_n C dX6_moveOn_1 rfl (by decide) [(0, .ref this), (1, .int (0 : Int32))] ⟨rfl, rfl, trivial⟩ ?_
  refine r_aload_n C dX6_moveOn_2 rfl rfl ?_
  obtain ⟨g1, hw⟩ := hw
  obtain ⟨a2, e2, hw⟩ := hw
  refine r_getA C K8 ob8 g1 (by decide) 19 (by decide) w_832 (fun _ z => z) e2 rfl dX6_moveOn_3 ?_
  refine r_bipush (v := (7 : Int32)) C dX6_moveOn_6 (by decide) ?_
  obtain ⟨g3, hw⟩ := hw
  obtain ⟨l4, hw⟩ := hw
  obtain ⟨x5, e5, hw⟩ := hw
  refine a_I C g3 (j := 7) rfl (by decide) l4 e5 dX6_moveOn_8 ?_
  refine r_iconst (v := (1 : Int32)) C dX6_moveOn_9 (by decide) ?_
  refine r_isub C dX6_moveOn_10 ?_
  refine r_istore_n C dX6_moveOn_11 rfl (by decide) [(0, .ref this), (1, .int (0 : Int32)), (2, .int (x5 - (1 : Int32)))] ⟨rfl, rfl, rfl, trivial⟩ ?_
  refine r_iload_n C dX6_moveOn_12 rfl rfl ?_
  refine r_iconst (v := (-1 : Int32)) C dX6_moveOn_13 (by decide) ?_
  replace hw := hw (fun (v59_1 : Int32) (h59_ : Hp) => WS E p l e (rmOf 3 0 0 69) s m args below meth c 5 (vx_MQ below (qcP E (poI post)) (xcP E (pxN)) args s 0 0 (bsA E)) h59_ 0 0 59 [(0, .ref this), (1, .int v59_1)] []) (by
    intro v59_1 h59_ hv
    replace hw := hv
    clear hv
    refine r_bipush (v := (6 : Int32)) C dX6_moveOn_59 (by decide) ?_
    refine r_istore_n C dX6_moveOn_61 rfl (by decide) [(0, .ref this), (1, .int v59_1), (3, .int (6 : Int32))] ⟨rfl, rfl, rfl, trivial⟩ ?_
    replace hw := hw (fun (v62_3 : Int32) (h62_ : Hp) => WS E p l e (rmOf 3 0 0 69) s m args below meth c 5 (vx_MQ below (qcP E (poI post)) (xcP E (pxN)) args s 0 0 (bsA E)) h62_ 0 0 62 [(0, .ref this), (1, .int v59_1), (3, .int v62_3)] []) (by
      intro v62_3 h62_ hv
      replace hw := hv
      clear hv
      refine r_iload_n C dX6_moveOn_62 rfl rfl ?_
      refine r_if_lt C 125 dX6_moveOn_63 (by decide) (fun z6 => ?_) (fun z6 => ?_)
      · replace hw := hw.1 z6
        refine r_iload_n C dX6_moveOn_125 rfl rfl ?_
        exact r_iret C dX6_moveOn_126 (by decide) (by decide) ⟨_, rfl, hw⟩
      · replace hw := hw.2 z6
        refine r_aload_n C dX6_moveOn_66 rfl rfl ?_
        obtain ⟨g7, hw⟩ := hw
        obtain ⟨a8, e8, hw⟩ := hw
        refine r_getA C K8 ob8 g7 (by decide) 19 (by decide) w_832 (fun _ z => z) e8 rfl dX6_moveOn_67 ?_
        refine r_iload_n C dX6_moveOn_70 rfl rfl ?_
        obtain ⟨g9, hw⟩ := hw
        obtain ⟨j10, f10, l10, k10, hw⟩ := hw
        obtain ⟨x11, e11, hw⟩ := hw
        refine a_I C g9 f10 l10 k10 e11 dX6_moveOn_71 ?_
        refine r_iconst (v := (1 : Int32)) C dX6_moveOn_72 (by decide) ?_
        refine r_isub C dX6_moveOn_73 ?_
        refine r_istore C dX6_moveOn_74 (by decide) [(0, .ref this), (1, .int v59_1), (3, .int v62_3), (4, .int (x11 - (1 : Int32)))] ⟨rfl, rfl, rfl, rfl, trivial⟩ ?_
        refine r_iload C dX6_moveOn_76 rfl ?_
        refine r_iconst (v := (-1 : Int32)) C dX6_moveOn_78 (by decide) ?_
        replace hw := hw (fun (h119_ : Hp) => WS E p l e (rmOf 3 0 0 69) s m args below meth c 5 (vx_MQ below (qcP E (poI post)) (xcP E (pxN)) args s 0 0 (bsA E)) h119_ 0 0 119 [(0, .ref this), (1, .int v59_1), (3, .int v62_3)] []) (by
          intro h119_ hv
          replace hw := hv
          clear hv
          refine r_iinc C (v62_3 + (-1 : Int32)) dX6_moveOn_119 rfl rfl (by decide) [(0, .ref this), (1, .int v59_1), (3, .int (v62_3 + (-1 : Int32)))] ⟨rfl, rfl, rfl, trivial⟩ ?_
          refine r_goto C 62 dX6_moveOn_122 (by decide) ?_
          exact (r_subk hw ⟨rfl, rfl, rfl, trivial⟩)
          )
        refine r_icmp_eq C 119 dX6_moveOn_79 (by decide) (fun z12 => ?_) (fun z12 => ?_)
        · replace hw := hw.1 z12
          exact (r_subk hw ⟨rfl, rfl, rfl, trivial⟩)
        · replace hw := hw.2 z12
          refine r_aload_n C dX6_moveOn_82 rfl rfl ?_
          obtain ⟨a13, e13, hw⟩ := hw
          refine r_getA C K8 ob8 g7 (by decide) 19 (by decide) w_832 (fun _ z => z) e13 rfl dX6_moveOn_83 ?_
          refine r_iload_n C dX6_moveOn_86 rfl rfl ?_
          refine r_iconst (v := (1 : Int32)) C dX6_moveOn_87 (by decide) ?_
          refine r_iadd C dX6_moveOn_88 ?_
          obtain ⟨g14, hw⟩ := hw
          obtain ⟨j15, f15, l15, k15, hw⟩ := hw
          obtain ⟨x16, e16, hw⟩ := hw
          refine a_I C g14 f15 l15 k15 e16 dX6_moveOn_89 ?_
          refine r_if_ne C 119 dX6_moveOn_90 (by decide) (fun z17 => ?_) (fun z17 => ?_)
          · replace hw := hw.2 z17
            exact (r_subk hw ⟨rfl, rfl, rfl, trivial⟩)
          · replace hw := hw.1 z17
            refine r_aload_n C dX6_moveOn_93 rfl rfl ?_
            refine r_iload C dX6_moveOn_94 rfl ?_
            refine r_iload_n C dX6_moveOn_96 rfl rfl ?_
            refine r_callV (As := [.int (x11 - (1 : Int32)), .int v62_3]) (st := []) C (m_X6_isDone hl hw) v_X6_isDone w_1052 K8 g7 (by decide) ob8 rfl ⟨leb rfl, leb rfl⟩ ⟨leb rfl, leb rfl⟩ rfl (leb rfl) dX6_moveOn_97 (fun _ _ z => z.elim) (kpI (K := fun hK sK => WS E p l e (rmOf 3 0 0 69) s m args below meth c 5 (vx_MQ below (qcP E (poI post)) (xcP E (pxN)) args s 0 0 (bsA E)) hK (0 + 0) (0 + 0) (97 + 3) [(0, .ref this), (1, .int v59_1), (3, .int v62_3), (4, .int (x11 - (1 : Int32)))] sK) (fun x18 hv => ?_))
            replace hw := hv
            clear hv
            refine r_if_eq C 119 dX6_moveOn_100 (by decide) (fun z19 => ?_) (fun z19 => ?_)
            · replace hw := hw.1 z19
              exact (r_subk hw ⟨rfl, rfl, rfl, trivial⟩)
            · replace hw := hw.2 z19
              refine r_aload_n C dX6_moveOn_103 rfl rfl ?_
              obtain ⟨a20, e20, hw⟩ := hw
              refine r_getA C K8 ob8 g7 (by decide) 19 (by decide) w_832 (fun _ z => z) e20 rfl dX6_moveOn_104 ?_
              refine r_iload_n C dX6_moveOn_107 rfl rfl ?_
              refine r_iconst (v := (0 : Int32)) C dX6_moveOn_108 (by decide) ?_
              obtain ⟨g21, hw⟩ := hw
              obtain ⟨j22, f22, l22, k22, hw⟩ := hw
              obtain ⟨h23, eh23⟩ : ∃ z, z = sI h62_ a20 j22 (0 : Int32) := ⟨_, rfl⟩
              replace hw := hw h23 eh23
              refine s_I C g21 f22 l22 k22 dX6_moveOn_109 eh23 ?_
              refine r_aload_n C dX6_moveOn_110 rfl rfl ?_
              refine r_iload C dX6_moveOn_111 rfl ?_
              refine r_iload_n C dX6_moveOn_113 rfl rfl ?_
              refine r_iconst (v := (1 : Int32)) C dX6_moveOn_114 (by decide) ?_
              refine r_iadd C dX6_moveOn_115 ?_
              have g25 : hT h23 this = 8 := by rw [eh23]; exact g7
              refine r_callV (As := [.int (x11 - (1 : Int32)), .int (v62_3 + (1 : Int32))]) (st := []) C (m_X6_comeTo hl hw) v_X6_comeTo w_1056 K8 g25 (by decide) ob8 rfl ⟨leb rfl, leb rfl⟩ ⟨leb rfl, leb rfl⟩ rfl (leb rfl) dX6_moveOn_116 (fun _ _ z => z.elim) (kkV (K := fun hK sK => WS E p l e (rmOf 3 0 0 69) s m args below meth c 5 (vx_MQ below (qcP E (poI post)) (xcP E (pxN)) args s 0 0 (bsA E)) hK (0 + 0) (0 + 0) (116 + 3) [(0, .ref this), (1, .int v59_1), (3, .int v62_3), (4, .int (x11 - (1 : Int32)))] sK) (fun h24 hv => ?_))
              replace hw := hv
              clear hv
              exact (r_subk hw ⟨rfl, rfl, rfl, trivial⟩)
      )
    exact (r_subk hw ⟨rfl, rfl, rfl, trivial⟩)
    )
  refine r_icmp_eq C 59 dX6_moveOn_14 (by decide) (fun z26 => ?_) (fun z26 => ?_)
  · replace hw := hw.1 z26
    exact (r_subk hw ⟨rfl, rfl, trivial⟩)
  · replace hw := hw.2 z26
    refine r_aload_n C dX6_moveOn_17 rfl rfl ?_
    refine r_iload_n C dX6_moveOn_18 rfl rfl ?_
    refine r_callV (As := [.int (x5 - (1 : Int32))]) (st := []) C (m_X6_lacked hl hw) v_X6_lacked w_955 K8 g1 (by decide) ob8 rfl ⟨leb rfl, leb rfl⟩ ⟨leb rfl, leb rfl⟩ rfl (leb rfl) dX6_moveOn_19 (fun _ _ z => z.elim) (kpI (K := fun hK sK => WS E p l e (rmOf 3 0 0 69) s m args below meth c 5 (vx_MQ below (qcP E (poI post)) (xcP E (pxN)) args s 0 0 (bsA E)) hK (0 + 0) (0 + 0) (19 + 3) [(0, .ref this), (1, .int (0 : Int32)), (2, .int (x5 - (1 : Int32)))] sK) (fun x27 hv => ?_))
    replace hw := hv
    clear hv
    refine r_if_ne C 59 dX6_moveOn_22 (by decide) (fun z28 => ?_) (fun z28 => ?_)
    · replace hw := hw.2 z28
      exact (r_subk hw ⟨rfl, rfl, trivial⟩)
    · replace hw := hw.1 z28
      refine r_aload_n C dX6_moveOn_25 rfl rfl ?_
      obtain ⟨a29, e29, hw⟩ := hw
      refine r_getA C K8 ob8 g1 (by decide) 16 (by decide) w_829 (fun _ z => z) e29 rfl dX6_moveOn_26 ?_
      refine r_iload_n C dX6_moveOn_29 rfl rfl ?_
      obtain ⟨g30, hw⟩ := hw
      obtain ⟨j31, f31, l31, k31, hw⟩ := hw
      obtain ⟨x32, e32, hw⟩ := hw
      refine a_B C g30 f31 l31 k31 e32 dX6_moveOn_30 ?_
      refine r_if_eq C 59 dX6_moveOn_31 (by decide) (fun z33 => ?_) (fun z33 => ?_)
      · replace hw := hw.1 z33
        exact (r_subk hw ⟨rfl, rfl, trivial⟩)
      · replace hw := hw.2 z33
        refine r_aload_n C dX6_moveOn_34 rfl rfl ?_
        refine r_iload_n C dX6_moveOn_35 rfl rfl ?_
        refine r_callV (As := [.int (x5 - (1 : Int32))]) (st := []) C (m_X6_fits hl hw) v_X6_fits w_1016 K8 g1 (by decide) ob8 rfl ⟨leb rfl, leb rfl⟩ ⟨leb rfl, leb rfl⟩ rfl (leb rfl) dX6_moveOn_36 (fun _ _ z => z.elim) (kkI (K := fun hK sK => WS E p l e (rmOf 3 0 0 69) s m args below meth c 5 (vx_MQ below (qcP E (poI post)) (xcP E (pxN)) args s 0 0 (bsA E)) hK (0 + 0) (0 + 0) (36 + 3) [(0, .ref this), (1, .int (0 : Int32)), (2, .int (x5 - (1 : Int32)))] sK) (fun x34 h34 hv => ?_))
        replace hw := hv
        clear hv
        refine r_if_eq C 59 dX6_moveOn_39 (by decide) (fun z35 => ?_) (fun z35 => ?_)
        · replace hw := hw.1 z35
          exact (r_subk hw ⟨rfl, rfl, trivial⟩)
        · replace hw := hw.2 z35
          refine r_aload_n C dX6_moveOn_42 rfl rfl ?_
          obtain ⟨g36, hw⟩ := hw
          obtain ⟨a37, e37, hw⟩ := hw
          refine r_getA C K8 ob8 g36 (by decide) 19 (by decide) w_832 (fun _ z => z) e37 rfl dX6_moveOn_43 ?_
          refine r_bipush (v := (7 : Int32)) C dX6_moveOn_46 (by decide) ?_
          refine r_iconst (v := (0 : Int32)) C dX6_moveOn_48 (by decide) ?_
          obtain ⟨g38, hw⟩ := hw
          obtain ⟨l39, hw⟩ := hw
          obtain ⟨h40, eh40⟩ : ∃ z, z = sI h34 a37 7 (0 : Int32) := ⟨_, rfl⟩
          replace hw := hw h40 eh40
          refine s_I C g38 (j := 7) rfl (by decide) l39 dX6_moveOn_49 eh40 ?_
          refine r_aload_n C dX6_moveOn_50 rfl rfl ?_
          have g41 : hT h40 this = 8 := by rw [eh40]; exact g36
          obtain ⟨a42, e42, hw⟩ := hw
          refine r_getA C K8 ob8 g41 (by decide) 12 (by decide) w_825 (fun _ z => z) e42 rfl dX6_moveOn_51 ?_
          refine r_iload_n C dX6_moveOn_54 rfl rfl ?_
          refine r_iconst (v := (3 : Int32)) C dX6_moveOn_55 (by decide) ?_
          obtain ⟨g43, hw⟩ := hw
          obtain ⟨j44, f44, l44, k44, hw⟩ := hw
          obtain ⟨h45, eh45⟩ : ∃ z, z = sI h40 a42 j44 (3 : Int32) := ⟨_, rfl⟩
          replace hw := hw h45 eh45
          refine s_I C g43 f44 l44 k44 dX6_moveOn_56 eh45 ?_
          refine r_iconst (v := (1 : Int32)) C dX6_moveOn_57 (by decide) ?_
          refine r_istore_n C dX6_moveOn_58 rfl (by decide) [(0, .ref this), (1, .int (1 : Int32))] ⟨rfl, rfl, trivial⟩ ?_
          exact (r_subk hw ⟨rfl, rfl, trivial⟩)
theorem v_X6_moveOn : MV yX6_moveOn cX6_moveOn 5 (some .int) 0 := ⟨w_1051, w_1050, w_48, w_60, ⟨by decide +kernel, by decide +kernel, by decide +kernel⟩⟩

def wp_X6_comeIn (h : Hp) (this : Nat) (post : Hp → Prop) : Prop :=
(∀ J4 : Int32 → Int32 → Hp → Prop, (∀ (v4_1 : Int32) (v4_2 : Int32) (h4_ : Hp), (hT h4_ this = 8 ∧
 (∃ x2 : Int32, hI h4_ this 21 = x2 ∧
 ((x2 ≤ v4_2 →
 (∀ h4, h4 = sI h4_ this 21 v4_1 →
 (∃ x6 : Int32, hI h4 this 22 = x6 ∧
 (∃ x7 : Int32, hI h4 this 10 = x7 ∧
 (∀ J107 : Hp → Prop, (∀ (h107_ : Hp), (post h107_) → J107 h107_) →
 ((x7 ≤ x6 →
 J107 h4) ∧ (¬ (x7 ≤ x6) →
 (∃ a9 : Nat, hR h4 this 19 = some a9 ∧
 (hT h4 a9 = 20 ∧
 (0 < hL h4 a9 ∧
 (∃ x12 : Int32, hI h4 a9 0 = x12 ∧
 ((x12 = 0 →
 (∃ x14 : Int32, hI h4 this 22 = x14 ∧
 wp_X6_comeTo h4 this x14 (0 : Int32) (fun h15 =>
 (hT h15 this = 8 ∧
 (∃ x17 : Int32, hI h15 this 22 = x17 ∧
 (∀ h18, h18 = sI h15 this 22 (x17 + (1 : Int32)) →
 J107 h18)))))) ∧ (¬ (x12 = 0) →
 J107 h4))))))))))))) ∧ (¬ (x2 ≤ v4_2) →
 (∃ a19 : Nat, hR h4_ this 20 = some a19 ∧
 (hT h4_ a19 = 20 ∧
 (∃ j21 : Nat, v4_2 = nI j21 ∧ j21 < 2147483648 ∧ j21 < hL h4_ a19 ∧
 (∃ x22 : Int32, hI h4_ a19 j21 = x22 ∧
 (∃ a23 : Nat, hR h4_ this 19 = some a23 ∧
 (∃ a24 : Nat, hR h4_ this 13 = some a24 ∧
 (hT h4_ a24 = 20 ∧
 (∃ j26 : Nat, x22 = nI j26 ∧ j26 < 2147483648 ∧ j26 < hL h4_ a24 ∧
 (∃ x27 : Int32, hI h4_ a24 j26 = x27 ∧
 (hT h4_ a23 = 20 ∧
 (∃ j29 : Nat, x27 = nI j29 ∧ j29 < 2147483648 ∧ j29 < hL h4_ a23 ∧
 (∃ x30 : Int32, hI h4_ a23 j29 = x30 ∧
 (∀ J57 : Int32 → Hp → Prop, (∀ (v57_1 : Int32) (h57_ : Hp), (J4 v57_1 (v4_2 + (1 : Int32)) h57_) → J57 v57_1 h57_) →
 ((x30 = 0 →
 (∃ a36 : Nat, hR h4_ this 13 = some a36 ∧
 (hT h4_ a36 = 20 ∧
 (∃ j38 : Nat, x22 = nI j38 ∧ j38 < 2147483648 ∧ j38 < hL h4_ a36 ∧
 (∃ x39 : Int32, hI h4_ a36 j38 = x39 ∧
 wp_X6_comeTo h4_ this x22 x39 (fun h40 =>
 J57 v4_1 h40)))))) ∧ (¬ (x30 = 0) →
 (∃ a32 : Nat, hR h4_ this 20 = some a32 ∧
 (hT h4_ a32 = 20 ∧
 (∃ j34 : Nat, v4_1 = nI j34 ∧ j34 < 2147483648 ∧ j34 < hL h4_ a32 ∧
 (∀ h35, h35 = sI h4_ a32 j34 x22 →
 J57 (v4_1 + (1 : Int32)) h35))))))))))))))))))))))) → J4 v4_1 v4_2 h4_) →
 J4 (0 : Int32) (0 : Int32) h)
set_option maxHeartbeats 4000000 in
set_option maxRecDepth 100000 in
theorem m_X6_comeIn {E : Ev} {l : Launch} (hl : l.stackTraces = false) {h : Hp} {this : Nat} {post : Hp → Prop} (hw : wp_X6_comeIn h this post) : MT E l yX6_comeIn cX6_comeIn 4 none 1 22 0 0 h [.ref this] (poV post) (pxN) := by
  refine MT.of (by decide) hl (Nat.le_of_ble_eq_true rfl) (fun p e s m args below meth c C => ?_)
  unfold wp_X6_comeIn at hw
  have C : CX E p l s m args meth c cX6_comeIn 4 "TaktLineModel" "comeIn" none [] := C
  show WS E p l e (rmOf 1 0 0 22) s m args below meth c 4 (vx_MQ below (qcP E (poV post)) (xcP E (pxN)) args s 0 0 (bsA E)) h 0 0 0 [(0, .ref this)] []
  refine r_iconst (v := (0 : Int32)) C dX6_comeIn_0 (by decide) ?_
  refine r_istore_n C dX6_comeIn_1 rfl (by decide) [(0, .ref this), (1, .int (0 : Int32))] ⟨rfl, rfl, trivial⟩ ?_
  refine r_iconst (v := (0 : Int32)) C dX6_comeIn_2 (by decide) ?_
  refine r_istore_n C dX6_comeIn_3 rfl (by decide) [(0, .ref this), (1, .int (0 : Int32)), (2, .int (0 : Int32))] ⟨rfl, rfl, rfl, trivial⟩ ?_
  replace hw := hw (fun (v4_1 : Int32) (v4_2 : Int32) (h4_ : Hp) => WS E p l e (rmOf 1 0 0 22) s m args below meth c 4 (vx_MQ below (qcP E (poV post)) (xcP E (pxN)) args s 0 0 (bsA E)) h4_ 0 0 4 [(0, .ref this), (1, .int v4_1), (2, .int v4_2)] []) (by
    intro v4_1 v4_2 h4_ hv
    replace hw := hv
    clear hv
    refine r_iload_n C dX6_comeIn_4 rfl rfl ?_
    refine r_aload_n C dX6_comeIn_5 rfl rfl ?_
    obtain ⟨g1, hw⟩ := hw
    obtain ⟨x2, e2, hw⟩ := hw
    refine r_getI C K8 ob8 g1 (by decide) 21 (by decide) w_834 (fun _ z => z) e2 rfl dX6_comeIn_6 ?_
    refine r_icmp_ge C 63 dX6_comeIn_9 (by decide) (fun z3 => ?_) (fun z3 => ?_)
    · replace hw := hw.1 z3
      refine r_aload_n C dX6_comeIn_63 rfl rfl ?_
      refine r_iload_n C dX6_comeIn_64 rfl rfl ?_
      obtain ⟨h4, eh4⟩ : ∃ z, z = sI h4_ this 21 v4_1 := ⟨_, rfl⟩
      replace hw := hw h4 eh4
      refine p_I C K8 ob8 g1 (by decide) 21 (by decide) w_834 (fun _ z => z) rfl (by decide +kernel) (Nat.le_of_ble_eq_true rfl) rfl dX6_comeIn_65 eh4 ?_
      refine r_aload_n C dX6_comeIn_68 rfl rfl ?_
      have g5 : hT h4 this = 8 := by rw [eh4]; exact g1
      obtain ⟨x6, e6, hw⟩ := hw
      refine r_getI C K8 ob8 g5 (by decide) 22 (by decide) w_835 (fun _ z => z) e6 rfl dX6_comeIn_69 ?_
      refine r_aload_n C dX6_comeIn_72 rfl rfl ?_
      obtain ⟨x7, e7, hw⟩ := hw
      refine r_getI C K8 ob8 g5 (by decide) 10 (by decide) w_823 (fun _ z => z) e7 rfl dX6_comeIn_73 ?_
      replace hw := hw (fun (h107_ : Hp) => WS E p l e (rmOf 1 0 0 22) s m args below meth c 4 (vx_MQ below (qcP E (poV post)) (xcP E (pxN)) args s 0 0 (bsA E)) h107_ 0 0 107 [] []) (by
        intro h107_ hv
        replace hw := hv
        clear hv
        exact r_vret C dX6_comeIn_107 (by decide) (by decide) ⟨rfl, hw⟩
        )
      refine r_icmp_ge C 107 dX6_comeIn_76 (by decide) (fun z8 => ?_) (fun z8 => ?_)
      · replace hw := hw.1 z8
        exact (r_subk hw trivial)
      · replace hw := hw.2 z8
        refine r_aload_n C dX6_comeIn_79 rfl rfl ?_
        obtain ⟨a9, e9, hw⟩ := hw
        refine r_getA C K8 ob8 g5 (by decide) 19 (by decide) w_832 (fun _ z => z) e9 rfl dX6_comeIn_80 ?_
        refine r_iconst (v := (0 : Int32)) C dX6_comeIn_83 (by decide) ?_
        obtain ⟨g10, hw⟩ := hw
        obtain ⟨l11, hw⟩ := hw
        obtain ⟨x12, e12, hw⟩ := hw
        refine a_I C g10 (j := 0) rfl (by decide) l11 e12 dX6_comeIn_84 ?_
        refine r_if_ne C 107 dX6_comeIn_85 (by decide) (fun z13 => ?_) (fun z13 => ?_)
        · replace hw := hw.2 z13
          exact (r_subk hw trivial)
        · replace hw := hw.1 z13
          refine r_aload_n C dX6_comeIn_88 rfl rfl ?_
          refine r_aload_n C dX6_comeIn_89 rfl rfl ?_
          obtain ⟨x14, e14, hw⟩ := hw
          refine r_getI C K8 ob8 g5 (by decide) 22 (by decide) w_835 (fun _ z => z) e14 rfl dX6_comeIn_90 ?_
          refine r_iconst (v := (0 : Int32)) C dX6_comeIn_93 (by decide) ?_
          refine r_callV (As := [.int x14, .int (0 : Int32)]) (st := []) C (m_X6_comeTo hl hw) v_X6_comeTo w_1056 K8 g5 (by decide) ob8 rfl ⟨leb rfl, leb rfl⟩ ⟨leb rfl, leb rfl⟩ rfl (leb rfl) dX6_comeIn_94 (fun _ _ z => z.elim) (kkV (K := fun hK sK => WS E p l e (rmOf 1 0 0 22) s m args below meth c 4 (vx_MQ below (qcP E (poV post)) (xcP E (pxN)) args s 0 0 (bsA E)) hK (0 + 0) (0 + 0) (94 + 3) [(0, .ref this), (1, .int v4_1), (2, .int v4_2)] sK) (fun h15 hv => ?_))
          replace hw := hv
          clear hv
          refine r_aload_n C dX6_comeIn_97 rfl rfl ?_
          refine r_dup C dX6_comeIn_98 rfl ?_
          obtain ⟨g16, hw⟩ := hw
          obtain ⟨x17, e17, hw⟩ := hw
          refine r_getI C K8 ob8 g16 (by decide) 22 (by decide) w_835 (fun _ z => z) e17 rfl dX6_comeIn_99 ?_
          refine r_iconst (v := (1 : Int32)) C dX6_comeIn_102 (by decide) ?_
          refine r_iadd C dX6_comeIn_103 ?_
          obtain ⟨h18, eh18⟩ : ∃ z, z = sI h15 this 22 (x17 + (1 : Int32)) := ⟨_, rfl⟩
          replace hw := hw h18 eh18
          refine p_I C K8 ob8 g16 (by decide) 22 (by decide) w_835 (fun _ z => z) rfl (by decide +kernel) (Nat.le_of_ble_eq_true rfl) rfl dX6_comeIn_104 eh18 ?_
          exact (r_subk hw trivial)
    · replace hw := hw.2 z3
      refine r_aload_n C dX6_comeIn_12 rfl rfl ?_
      obtain ⟨a19, e19, hw⟩ := hw
      refine r_getA C K8 ob8 g1 (by decide) 20 (by decide) w_833 (fun _ z => z) e19 rfl dX6_comeIn_13 ?_
      refine r_iload_n C dX6_comeIn_16 rfl rfl ?_
      obtain ⟨g20, hw⟩ := hw
      obtain ⟨j21, f21, l21, k21, hw⟩ := hw
      obtain ⟨x22, e22, hw⟩ := hw
      refine a_I C g20 f21 l21 k21 e22 dX6_comeIn_17 ?_
      refine r_istore_n C dX6_comeIn_18 rfl (by decide) [(0, .ref this), (1, .int v4_1), (2, .int v4_2), (3, .int x22)] ⟨rfl, rfl, rfl, rfl, trivial⟩ ?_
      refine r_aload_n C dX6_comeIn_19 rfl rfl ?_
      obtain ⟨a23, e23, hw⟩ := hw
      refine r_getA C K8 ob8 g1 (by decide) 19 (by decide) w_832 (fun _ z => z) e23 rfl dX6_comeIn_20 ?_
      refine r_aload_n C dX6_comeIn_23 rfl rfl ?_
      obtain ⟨a24, e24, hw⟩ := hw
      refine r_getA C K8 ob8 g1 (by decide) 13 (by decide) w_826 (fun _ z => z) e24 rfl dX6_comeIn_24 ?_
      refine r_iload_n C dX6_comeIn_27 rfl rfl ?_
      obtain ⟨g25, hw⟩ := hw
      obtain ⟨j26, f26, l26, k26, hw⟩ := hw
      obtain ⟨x27, e27, hw⟩ := hw
      refine a_I C g25 f26 l26 k26 e27 dX6_comeIn_28 ?_
      obtain ⟨g28, hw⟩ := hw
      obtain ⟨j29, f29, l29, k29, hw⟩ := hw
      obtain ⟨x30, e30, hw⟩ := hw
      refine a_I C g28 f29 l29 k29 e30 dX6_comeIn_29 ?_
      replace hw := hw (fun (v57_1 : Int32) (h57_ : Hp) => WS E p l e (rmOf 1 0 0 22) s m args below meth c 4 (vx_MQ below (qcP E (poV post)) (xcP E (pxN)) args s 0 0 (bsA E)) h57_ 0 0 57 [(0, .ref this), (1, .int v57_1), (2, .int v4_2)] []) (by
        intro v57_1 h57_ hv
        replace hw := hv
        clear hv
        refine r_iinc C (v4_2 + (1 : Int32)) dX6_comeIn_57 rfl rfl (by decide) [(0, .ref this), (1, .int v57_1), (2, .int (v4_2 + (1 : Int32)))] ⟨rfl, rfl, rfl, trivial⟩ ?_
        refine r_goto C 4 dX6_comeIn_60 (by decide) ?_
        exact (r_subk hw ⟨rfl, rfl, rfl, trivial⟩)
        )
      refine r_if_ne C 47 dX6_comeIn_30 (by decide) (fun z31 => ?_) (fun z31 => ?_)
      · replace hw := hw.2 z31
        refine r_aload_n C dX6_comeIn_47 rfl rfl ?_
        obtain ⟨a32, e32, hw⟩ := hw
        refine r_getA C K8 ob8 g1 (by decide) 20 (by decide) w_833 (fun _ z => z) e32 rfl dX6_comeIn_48 ?_
        refine r_iload_n C dX6_comeIn_51 rfl rfl ?_
        refine r_iload_n C dX6_comeIn_52 rfl rfl ?_
        obtain ⟨g33, hw⟩ := hw
        obtain ⟨j34, f34, l34, k34, hw⟩ := hw
        obtain ⟨h35, eh35⟩ : ∃ z, z = sI h4_ a32 j34 x22 := ⟨_, rfl⟩
        replace hw := hw h35 eh35
        refine s_I C g33 f34 l34 k34 dX6_comeIn_53 eh35 ?_
        refine r_iinc C (v4_1 + (1 : Int32)) dX6_comeIn_54 rfl rfl (by decide) [(0, .ref this), (1, .int (v4_1 + (1 : Int32))), (2, .int v4_2)] ⟨rfl, rfl, rfl, trivial⟩ ?_
        exact (r_subk hw ⟨rfl, rfl, rfl, trivial⟩)
      · replace hw := hw.1 z31
        refine r_aload_n C dX6_comeIn_33 rfl rfl ?_
        refine r_iload_n C dX6_comeIn_34 rfl rfl ?_
        refine r_aload_n C dX6_comeIn_35 rfl rfl ?_
        obtain ⟨a36, e36, hw⟩ := hw
        refine r_getA C K8 ob8 g1 (by decide) 13 (by decide) w_826 (fun _ z => z) e36 rfl dX6_comeIn_36 ?_
        refine r_iload_n C dX6_comeIn_39 rfl rfl ?_
        obtain ⟨g37, hw⟩ := hw
        obtain ⟨j38, f38, l38, k38, hw⟩ := hw
        obtain ⟨x39, e39, hw⟩ := hw
        refine a_I C g37 f38 l38 k38 e39 dX6_comeIn_40 ?_
        refine r_callV (As := [.int x22, .int x39]) (st := []) C (m_X6_comeTo hl hw) v_X6_comeTo w_1056 K8 g1 (by decide) ob8 rfl ⟨leb rfl, leb rfl⟩ ⟨leb rfl, leb rfl⟩ rfl (leb rfl) dX6_comeIn_41 (fun _ _ z => z.elim) (kkV (K := fun hK sK => WS E p l e (rmOf 1 0 0 22) s m args below meth c 4 (vx_MQ below (qcP E (poV post)) (xcP E (pxN)) args s 0 0 (bsA E)) hK (0 + 0) (0 + 0) (41 + 3) [(0, .ref this), (1, .int v4_1), (2, .int v4_2), (3, .int x22)] sK) (fun h40 hv => ?_))
        replace hw := hv
        clear hv
        refine r_goto C 57 dX6_comeIn_44 (by decide) ?_
        exact (r_subk hw ⟨rfl, rfl, rfl, trivial⟩)
    )
  exact (r_subk hw ⟨rfl, rfl, rfl, trivial⟩)
theorem v_X6_comeIn : MV yX6_comeIn cX6_comeIn 4 none 0 := ⟨w_1063, w_1062, w_51, w_60, ⟨by decide +kernel, by decide +kernel, by decide +kernel⟩⟩

def wp_X6_fit (h : Hp) (this : Nat) (p0 : Int32) (p1 : Int32) (post : Hp → Prop) : Prop :=
(hT h this = 8 ∧
 (∃ a2 : Nat, hR h this 14 = some a2 ∧
 (hT h a2 = 20 ∧
 (∃ j4 : Nat, ((10 : Int32) * p0) + p1 = nI j4 ∧ j4 < 2147483648 ∧ j4 < hL h a2 ∧
 (∃ x5 : Int32, hI h a2 j4 = x5 ∧
 (∀ J40 : Hp → Prop, (∀ (h40_ : Hp), (∀ J43 : Int32 → Hp → Prop, (∀ (v43_4 : Int32) (h43_ : Hp), (hT h43_ this = 8 ∧
 (∃ x7 : Int32, hI h43_ this 5 = x7 ∧
 (∀ J126 : Prop, ((post h43_) → J126) →
 ((x7 ≤ v43_4 →
 J126) ∧ (¬ (x7 ≤ v43_4) →
 (∃ a9 : Nat, hR h43_ this 14 = some a9 ∧
 (hT h43_ a9 = 20 ∧
 (∃ j11 : Nat, ((10 : Int32) * p0) + p1 = nI j11 ∧ j11 < 2147483648 ∧ j11 < hL h43_ a9 ∧
 (∃ x12 : Int32, hI h43_ a9 j11 = x12 ∧
 ((x12 = 0 →
 (∃ a14 : Nat, hR h43_ this 6 = some a14 ∧
 (hT h43_ a14 = 20 ∧
 (∃ j16 : Nat, v43_4 = nI j16 ∧ j16 < 2147483648 ∧ j16 < hL h43_ a14 ∧
 (∃ x17 : Int32, hI h43_ a14 j16 = x17 ∧
 (∀ J120 : Hp → Prop, (∀ (h120_ : Hp), (J43 (v43_4 + (1 : Int32)) h120_) → J120 h120_) →
 ((x17 = p1 →
 (∃ a19 : Nat, hR h43_ this 9 = some a19 ∧
 (hT h43_ a19 = 21 ∧
 (∃ j21 : Nat, v43_4 = nI j21 ∧ j21 < 2147483648 ∧ j21 < hL h43_ a19 ∧
 (∃ x22 : Int32, hI h43_ a19 j21 = x22 ∧
 ((x22 = 0 →
 (∃ a24 : Nat, hR h43_ this 8 = some a24 ∧
 (hT h43_ a24 = 20 ∧
 (∃ j26 : Nat, v43_4 = nI j26 ∧ j26 < 2147483648 ∧ j26 < hL h43_ a24 ∧
 (∃ x27 : Int32, hI h43_ a24 j26 = x27 ∧
 ((x27 ≤ 0 →
 J120 h43_) ∧ (¬ (x27 ≤ 0) →
 (∃ a29 : Nat, hR h43_ this 8 = some a29 ∧
 (hT h43_ a29 = 20 ∧
 (∃ j31 : Nat, v43_4 = nI j31 ∧ j31 < 2147483648 ∧ j31 < hL h43_ a29 ∧
 (∃ x32 : Int32, hI h43_ a29 j31 = x32 ∧
 (∃ j33 : Nat, v43_4 = nI j33 ∧ j33 < 2147483648 ∧ j33 < hL h43_ a29 ∧
 (∀ h34, h34 = sI h43_ a29 j33 (x32 - (1 : Int32)) →
 (∃ a36 : Nat, hR h34 this 14 = some a36 ∧
 (hT h34 a36 = 20 ∧
 (∃ j38 : Nat, ((10 : Int32) * p0) + p1 = nI j38 ∧ j38 < 2147483648 ∧ j38 < hL h34 a36 ∧
 (∀ h39, h39 = sI h34 a36 j38 (v43_4 + (1 : Int32)) →
 (∃ a41 : Nat, hR h39 this 16 = some a41 ∧
 (hT h39 a41 = 21 ∧
 (∃ j43 : Nat, p0 = nI j43 ∧ j43 < 2147483648 ∧ j43 < hL h39 a41 ∧
 (∀ h44, h44 = sI h39 a41 j43 (0 : Int32) →
 J120 h44))))))))))))))))))))) ∧ (¬ (x22 = 0) →
 J120 h43_))))))) ∧ (¬ (x17 = p1) →
 J120 h43_)))))))) ∧ (¬ (x12 = 0) →
 J126))))))))))) → J43 v43_4 h43_) →
 J43 (0 : Int32) h40_) → J40 h40_) →
 ((x5 ≤ 0 →
 J40 h) ∧ (¬ (x5 ≤ 0) →
 (∃ a46 : Nat, hR h this 14 = some a46 ∧
 (hT h a46 = 20 ∧
 (∃ j48 : Nat, ((10 : Int32) * p0) + p1 = nI j48 ∧ j48 < 2147483648 ∧ j48 < hL h a46 ∧
 (∀ h49, h49 = sI h a46 j48 (0 : Int32) →
 (∃ x51 : Int32, hI h49 this 28 = x51 ∧
 (∀ h52, h52 = sI h49 this 28 (x51 + (1 : Int32)) →
 (∃ a54 : Nat, hR h52 this 16 = some a54 ∧
 (hT h52 a54 = 21 ∧
 (∃ j56 : Nat, p0 = nI j56 ∧ j56 < 2147483648 ∧ j56 < hL h52 a54 ∧
 (∀ h57, h57 = sI h52 a54 j56 (0 : Int32) →
 J40 h57))))))))))))))))))
set_option maxHeartbeats 4000000 in
set_option maxRecDepth 100000 in
theorem m_X6_fit {E : Ev} {l : Launch} (hl : l.stackTraces = false) {h : Hp} {this : Nat} {p0 : Int32} {p1 : Int32} {post : Hp → Prop} (hw : wp_X6_fit h this p0 p1 post) : MT E l yX6_fit cX6_fit 5 none 0 0 0 0 h [.ref this, .int p0, .int p1] (poV post) (pxN) := by
  refine MT.of (by decide) hl (Nat.le_of_ble_eq_true rfl) (fun p e s m args below meth c C => ?_)
  unfold wp_X6_fit at hw
  have C : CX E p l s m args meth c cX6_fit 5 "TaktLineModel" "fit" none [] := C
  show WS E p l e (rmOf 0 0 0 0) s m args below meth c 5 (vx_MQ below (qcP E (poV post)) (xcP E (pxN)) args s 0 0 (bsA E)) h 0 0 0 [(0, .ref this), (1, .int p0), (2, .int p1)] []
  refine r_bipush (v := (10 : Int32)) C dX6_fit_0 (by decide) ?_
  refine r_iload_n C dX6_fit_2 rfl rfl ?_
  refine r_imul C dX6_fit_3 ?_
  refine r_iload_n C dX6_fit_4 rfl rfl ?_
  refine r_iadd C dX6_fit_5 ?_
  refine r_istore_n C dX6_fit_6 rfl (by decide) [(0, .ref this), (1, .int p0), (2, .int p1), (3, .int (((10 : Int32) * p0) + p1))] ⟨rfl, rfl, rfl, rfl, trivial⟩ ?_
  refine r_aload_n C dX6_fit_7 rfl rfl ?_
  obtain ⟨g1, hw⟩ := hw
  obtain ⟨a2, e2, hw⟩ := hw
  refine r_getA C K8 ob8 g1 (by decide) 14 (by decide) w_827 (fun _ z => z) e2 rfl dX6_fit_8 ?_
  refine r_iload_n C dX6_fit_11 rfl rfl ?_
  obtain ⟨g3, hw⟩ := hw
  obtain ⟨j4, f4, l4, k4, hw⟩ := hw
  obtain ⟨x5, e5, hw⟩ := hw
  refine a_I C g3 f4 l4 k4 e5 dX6_fit_12 ?_
  replace hw := hw (fun (h40_ : Hp) => WS E p l e (rmOf 0 0 0 0) s m args below meth c 5 (vx_MQ below (qcP E (poV post)) (xcP E (pxN)) args s 0 0 (bsA E)) h40_ 0 0 40 [(0, .ref this), (1, .int p0), (2, .int p1), (3, .int (((10 : Int32) * p0) + p1))] []) (by
    intro h40_ hv
    replace hw := hv
    clear hv
    refine r_iconst (v := (0 : Int32)) C dX6_fit_40 (by decide) ?_
    refine r_istore C dX6_fit_41 (by decide) [(0, .ref this), (1, .int p0), (2, .int p1), (3, .int (((10 : Int32) * p0) + p1)), (4, .int (0 : Int32))] ⟨rfl, rfl, rfl, rfl, rfl, trivial⟩ ?_
    replace hw := hw (fun (v43_4 : Int32) (h43_ : Hp) => WS E p l e (rmOf 0 0 0 0) s m args below meth c 5 (vx_MQ below (qcP E (poV post)) (xcP E (pxN)) args s 0 0 (bsA E)) h43_ 0 0 43 [(0, .ref this), (1, .int p0), (2, .int p1), (3, .int (((10 : Int32) * p0) + p1)), (4, .int v43_4)] []) (by
      intro v43_4 h43_ hv
      replace hw := hv
      clear hv
      refine r_iload C dX6_fit_43 rfl ?_
      refine r_aload_n C dX6_fit_45 rfl rfl ?_
      obtain ⟨g6, hw⟩ := hw
      obtain ⟨x7, e7, hw⟩ := hw
      refine r_getI C K8 ob8 g6 (by decide) 5 (by decide) w_818 (fun _ z => z) e7 rfl dX6_fit_46 ?_
      replace hw := hw (WS E p l e (rmOf 0 0 0 0) s m args below meth c 5 (vx_MQ below (qcP E (poV post)) (xcP E (pxN)) args s 0 0 (bsA E)) h43_ 0 0 126 [] []) (by
        intro hv
        replace hw := hv
        clear hv
        exact r_vret C dX6_fit_126 (by decide) (by decide) ⟨rfl, hw⟩
        )
      refine r_icmp_ge C 126 dX6_fit_49 (by decide) (fun z8 => ?_) (fun z8 => ?_)
      · replace hw := hw.1 z8
        exact (r_subk hw trivial)
      · replace hw := hw.2 z8
        refine r_aload_n C dX6_fit_52 rfl rfl ?_
        obtain ⟨a9, e9, hw⟩ := hw
        refine r_getA C K8 ob8 g6 (by decide) 14 (by decide) w_827 (fun _ z => z) e9 rfl dX6_fit_53 ?_
        refine r_iload_n C dX6_fit_56 rfl rfl ?_
        obtain ⟨g10, hw⟩ := hw
        obtain ⟨j11, f11, l11, k11, hw⟩ := hw
        obtain ⟨x12, e12, hw⟩ := hw
        refine a_I C g10 f11 l11 k11 e12 dX6_fit_57 ?_
        refine r_if_ne C 126 dX6_fit_58 (by decide) (fun z13 => ?_) (fun z13 => ?_)
        · replace hw := hw.2 z13
          exact (r_subk hw trivial)
        · replace hw := hw.1 z13
          refine r_aload_n C dX6_fit_61 rfl rfl ?_
          obtain ⟨a14, e14, hw⟩ := hw
          refine r_getA C K8 ob8 g6 (by decide) 6 (by decide) w_819 (fun _ z => z) e14 rfl dX6_fit_62 ?_
          refine r_iload C dX6_fit_65 rfl ?_
          obtain ⟨g15, hw⟩ := hw
          obtain ⟨j16, f16, l16, k16, hw⟩ := hw
          obtain ⟨x17, e17, hw⟩ := hw
          refine a_I C g15 f16 l16 k16 e17 dX6_fit_67 ?_
          refine r_iload_n C dX6_fit_68 rfl rfl ?_
          replace hw := hw (fun (h120_ : Hp) => WS E p l e (rmOf 0 0 0 0) s m args below meth c 5 (vx_MQ below (qcP E (poV post)) (xcP E (pxN)) args s 0 0 (bsA E)) h120_ 0 0 120 [(0, .ref this), (1, .int p0), (2, .int p1), (3, .int (((10 : Int32) * p0) + p1)), (4, .int v43_4)] []) (by
            intro h120_ hv
            replace hw := hv
            clear hv
            refine r_iinc C (v43_4 + (1 : Int32)) dX6_fit_120 rfl rfl (by decide) [(0, .ref this), (1, .int p0), (2, .int p1), (3, .int (((10 : Int32) * p0) + p1)), (4, .int (v43_4 + (1 : Int32)))] ⟨rfl, rfl, rfl, rfl, rfl, trivial⟩ ?_
            refine r_goto C 43 dX6_fit_123 (by decide) ?_
            exact (r_subk hw ⟨rfl, rfl, rfl, rfl, rfl, trivial⟩)
            )
          refine r_icmp_ne C 120 dX6_fit_69 (by decide) (fun z18 => ?_) (fun z18 => ?_)
          · replace hw := hw.2 z18
            exact (r_subk hw ⟨rfl, rfl, rfl, rfl, rfl, trivial⟩)
          · replace hw := hw.1 z18
            refine r_aload_n C dX6_fit_72 rfl rfl ?_
            obtain ⟨a19, e19, hw⟩ := hw
            refine r_getA C K8 ob8 g6 (by decide) 9 (by decide) w_822 (fun _ z => z) e19 rfl dX6_fit_73 ?_
            refine r_iload C dX6_fit_76 rfl ?_
            obtain ⟨g20, hw⟩ := hw
            obtain ⟨j21, f21, l21, k21, hw⟩ := hw
            obtain ⟨x22, e22, hw⟩ := hw
            refine a_B C g20 f21 l21 k21 e22 dX6_fit_78 ?_
            refine r_if_ne C 120 dX6_fit_79 (by decide) (fun z23 => ?_) (fun z23 => ?_)
            · replace hw := hw.2 z23
              exact (r_subk hw ⟨rfl, rfl, rfl, rfl, rfl, trivial⟩)
            · replace hw := hw.1 z23
              refine r_aload_n C dX6_fit_82 rfl rfl ?_
              obtain ⟨a24, e24, hw⟩ := hw
              refine r_getA C K8 ob8 g6 (by decide) 8 (by decide) w_821 (fun _ z => z) e24 rfl dX6_fit_83 ?_
              refine r_iload C dX6_fit_86 rfl ?_
              obtain ⟨g25, hw⟩ := hw
              obtain ⟨j26, f26, l26, k26, hw⟩ := hw
              obtain ⟨x27, e27, hw⟩ := hw
              refine a_I C g25 f26 l26 k26 e27 dX6_fit_88 ?_
              refine r_if_le C 120 dX6_fit_89 (by decide) (fun z28 => ?_) (fun z28 => ?_)
              · replace hw := hw.1 z28
                exact (r_subk hw ⟨rfl, rfl, rfl, rfl, rfl, trivial⟩)
              · replace hw := hw.2 z28
                refine r_aload_n C dX6_fit_92 rfl rfl ?_
                obtain ⟨a29, e29, hw⟩ := hw
                refine r_getA C K8 ob8 g6 (by decide) 8 (by decide) w_821 (fun _ z => z) e29 rfl dX6_fit_93 ?_
                refine r_iload C dX6_fit_96 rfl ?_
                refine r_dup2 C dX6_fit_98 rfl rfl ?_
                obtain ⟨g30, hw⟩ := hw
                obtain ⟨j31, f31, l31, k31, hw⟩ := hw
                obtain ⟨x32, e32, hw⟩ := hw
                refine a_I C g30 f31 l31 k31 e32 dX6_fit_99 ?_
                refine r_iconst (v := (1 : Int32)) C dX6_fit_100 (by decide) ?_
                refine r_isub C dX6_fit_101 ?_
                obtain ⟨j33, f33, l33, k33, hw⟩ := hw
                obtain ⟨h34, eh34⟩ : ∃ z, z = sI h43_ a29 j33 (x32 - (1 : Int32)) := ⟨_, rfl⟩
                replace hw := hw h34 eh34
                refine s_I C g30 f33 l33 k33 dX6_fit_102 eh34 ?_
                refine r_aload_n C dX6_fit_103 rfl rfl ?_
                have g35 : hT h34 this = 8 := by rw [eh34]; exact g6
                obtain ⟨a36, e36, hw⟩ := hw
                refine r_getA C K8 ob8 g35 (by decide) 14 (by decide) w_827 (fun _ z => z) e36 rfl dX6_fit_104 ?_
                refine r_iload_n C dX6_fit_107 rfl rfl ?_
                refine r_iload C dX6_fit_108 rfl ?_
                refine r_iconst (v := (1 : Int32)) C dX6_fit_110 (by decide) ?_
                refine r_iadd C dX6_fit_111 ?_
                obtain ⟨g37, hw⟩ := hw
                obtain ⟨j38, f38, l38, k38, hw⟩ := hw
                obtain ⟨h39, eh39⟩ : ∃ z, z = sI h34 a36 j38 (v43_4 + (1 : Int32)) := ⟨_, rfl⟩
                replace hw := hw h39 eh39
                refine s_I C g37 f38 l38 k38 dX6_fit_112 eh39 ?_
                refine r_aload_n C dX6_fit_113 rfl rfl ?_
                have g40 : hT h39 this = 8 := by rw [eh39]; exact g35
                obtain ⟨a41, e41, hw⟩ := hw
                refine r_getA C K8 ob8 g40 (by decide) 16 (by decide) w_829 (fun _ z => z) e41 rfl dX6_fit_114 ?_
                refine r_iload_n C dX6_fit_117 rfl rfl ?_
                refine r_iconst (v := (0 : Int32)) C dX6_fit_118 (by decide) ?_
                obtain ⟨g42, hw⟩ := hw
                obtain ⟨j43, f43, l43, k43, hw⟩ := hw
                obtain ⟨h44, eh44⟩ : ∃ z, z = sI h39 a41 j43 (0 : Int32) := ⟨_, rfl⟩
                replace hw := hw h44 eh44
                refine s_B C g42 f43 l43 k43 (Or.inl rfl) dX6_fit_119 eh44 ?_
                exact (r_subk hw ⟨rfl, rfl, rfl, rfl, rfl, trivial⟩)
      )
    exact (r_subk hw ⟨rfl, rfl, rfl, rfl, rfl, trivial⟩)
    )
  refine r_if_le C 40 dX6_fit_13 (by decide) (fun z45 => ?_) (fun z45 => ?_)
  · replace hw := hw.1 z45
    exact (r_subk hw ⟨rfl, rfl, rfl, rfl, trivial⟩)
  · replace hw := hw.2 z45
    refine r_aload_n C dX6_fit_16 rfl rfl ?_
    obtain ⟨a46, e46, hw⟩ := hw
    refine r_getA C K8 ob8 g1 (by decide) 14 (by decide) w_827 (fun _ z => z) e46 rfl dX6_fit_17 ?_
    refine r_iload_n C dX6_fit_20 rfl rfl ?_
    refine r_iconst (v := (0 : Int32)) C dX6_fit_21 (by decide) ?_
    obtain ⟨g47, hw⟩ := hw
    obtain ⟨j48, f48, l48, k48, hw⟩ := hw
    obtain ⟨h49, eh49⟩ : ∃ z, z = sI h a46 j48 (0 : Int32) := ⟨_, rfl⟩
    replace hw := hw h49 eh49
    refine s_I C g47 f48 l48 k48 dX6_fit_22 eh49 ?_
    refine r_aload_n C dX6_fit_23 rfl rfl ?_
    refine r_dup C dX6_fit_24 rfl ?_
    have g50 : hT h49 this = 8 := by rw [eh49]; exact g1
    obtain ⟨x51, e51, hw⟩ := hw
    refine r_getI C K8 ob8 g50 (by decide) 28 (by decide) w_841 (fun _ z => z) e51 rfl dX6_fit_25 ?_
    refine r_iconst (v := (1 : Int32)) C dX6_fit_28 (by decide) ?_
    refine r_iadd C dX6_fit_29 ?_
    obtain ⟨h52, eh52⟩ : ∃ z, z = sI h49 this 28 (x51 + (1 : Int32)) := ⟨_, rfl⟩
    replace hw := hw h52 eh52
    refine p_I C K8 ob8 g50 (by decide) 28 (by decide) w_841 (fun _ z => z) rfl (by decide +kernel) (Nat.le_of_ble_eq_true rfl) rfl dX6_fit_30 eh52 ?_
    refine r_aload_n C dX6_fit_33 rfl rfl ?_
    have g53 : hT h52 this = 8 := by rw [eh52]; exact g50
    obtain ⟨a54, e54, hw⟩ := hw
    refine r_getA C K8 ob8 g53 (by decide) 16 (by decide) w_829 (fun _ z => z) e54 rfl dX6_fit_34 ?_
    refine r_iload_n C dX6_fit_37 rfl rfl ?_
    refine r_iconst (v := (0 : Int32)) C dX6_fit_38 (by decide) ?_
    obtain ⟨g55, hw⟩ := hw
    obtain ⟨j56, f56, l56, k56, hw⟩ := hw
    obtain ⟨h57, eh57⟩ : ∃ z, z = sI h52 a54 j56 (0 : Int32) := ⟨_, rfl⟩
    replace hw := hw h57 eh57
    refine s_B C g55 f56 l56 k56 (Or.inl rfl) dX6_fit_39 eh57 ?_
    exact (r_subk hw ⟨rfl, rfl, rfl, rfl, trivial⟩)
theorem v_X6_fit : MV yX6_fit cX6_fit 5 none 2 := ⟨w_1071, w_1070, w_53, w_60, ⟨by decide +kernel, by decide +kernel, by decide +kernel⟩⟩

def wp_X6_work (h : Hp) (this : Nat) (p0 : Int32) (post : Hp → Prop) : Prop :=
(hT h this = 8 ∧
 (∃ a2 : Nat, hR h this 19 = some a2 ∧
 (hT h a2 = 20 ∧
 (∃ j4 : Nat, p0 = nI j4 ∧ j4 < 2147483648 ∧ j4 < hL h a2 ∧
 (∃ x5 : Int32, hI h a2 j4 = x5 ∧
 (∀ J11 : Int32 → Hp → Prop, (∀ (v11_3 : Int32) (h11_ : Hp), (((10 : Int32) ≤ v11_3 →
 (∀ J141 : Hp → Prop, (∀ (h141_ : Hp), (post h141_) → J141 h141_) →
 ((p0 = (6 : Int32) →
 (hT h11_ this = 8 ∧
 (∃ a9 : Nat, hR h11_ this 16 = some a9 ∧
 (hT h11_ a9 = 21 ∧
 (∃ j11 : Nat, x5 - (1 : Int32) = nI j11 ∧ j11 < 2147483648 ∧ j11 < hL h11_ a9 ∧
 (∃ x12 : Int32, hI h11_ a9 j11 = x12 ∧
 ((x12 = 0 →
 (∃ a14 : Nat, hR h11_ this 16 = some a14 ∧
 (∃ a15 : Nat, hR h11_ this 18 = some a15 ∧
 (hT h11_ a15 = 21 ∧
 (∃ j17 : Nat, x5 - (1 : Int32) = nI j17 ∧ j17 < 2147483648 ∧ j17 < hL h11_ a15 ∧
 (∃ x18 : Int32, hI h11_ a15 j17 = x18 ∧
 (∀ J90 : Int32 → Hp → Prop, (∀ (t90_0 : Int32) (h90_ : Hp), (hT h90_ a14 = 21 ∧
 (∃ j20 : Nat, x5 - (1 : Int32) = nI j20 ∧ j20 < 2147483648 ∧ j20 < hL h90_ a14 ∧
 (b01 t90_0 ∧
 (∀ h22, h22 = sI h90_ a14 j20 t90_0 →
 (hT h22 this = 8 ∧
 (∃ a24 : Nat, hR h22 this 17 = some a24 ∧
 (∃ a25 : Nat, hR h22 this 16 = some a25 ∧
 (hT h22 a25 = 21 ∧
 (∃ j27 : Nat, x5 - (1 : Int32) = nI j27 ∧ j27 < 2147483648 ∧ j27 < hL h22 a25 ∧
 (∃ x28 : Int32, hI h22 a25 j27 = x28 ∧
 (∀ J110 : Int32 → Prop, (∀ (t110_0 : Int32), (hT h22 a24 = 21 ∧
 (∃ j30 : Nat, x5 - (1 : Int32) = nI j30 ∧ j30 < 2147483648 ∧ j30 < hL h22 a24 ∧
 (b01 t110_0 ∧
 (∀ h32, h32 = sI h22 a24 j30 t110_0 →
 (∃ x34 : Int32, hI h32 this 29 = x34 ∧
 (∃ a35 : Nat, hR h32 this 17 = some a35 ∧
 (hT h32 a35 = 21 ∧
 (∃ j37 : Nat, x5 - (1 : Int32) = nI j37 ∧ j37 < 2147483648 ∧ j37 < hL h32 a35 ∧
 (∃ x38 : Int32, hI h32 a35 j37 = x38 ∧
 (∀ J130 : Int32 → Prop, (∀ (t130_0 : Int32), (∀ h39, h39 = sI h32 this 29 (x34 + t130_0) →
 (∃ a41 : Nat, hR h39 this 18 = some a41 ∧
 (hT h39 a41 = 21 ∧
 (∃ j43 : Nat, x5 - (1 : Int32) = nI j43 ∧ j43 < 2147483648 ∧ j43 < hL h39 a41 ∧
 (∀ h44, h44 = sI h39 a41 j43 (0 : Int32) →
 J141 h44))))) → J130 t130_0) →
 ((x38 = 0 →
 J130 (0 : Int32)) ∧ (¬ (x38 = 0) →
 J130 (1 : Int32))))))))))))) → J110 t110_0) →
 ((x28 = 0 →
 J110 (1 : Int32)) ∧ (¬ (x28 = 0) →
 J110 (0 : Int32)))))))))))))) → J90 t90_0 h90_) →
 (∀ J89 : Hp → Prop, (∀ (h89_ : Hp), (J90 (0 : Int32) h89_) → J89 h89_) →
 ((x18 = 0 →
 wp_X6_fits h11_ this (x5 - (1 : Int32)) (fun x48 h48 =>
 ((x48 = 0 →
 J89 h48) ∧ (¬ (x48 = 0) →
 J90 (1 : Int32) h48)))) ∧ (¬ (x18 = 0) →
 J89 h11_)))))))))) ∧ (¬ (x12 = 0) →
 J141 h11_)))))))) ∧ (¬ (p0 = (6 : Int32)) →
 J141 h11_)))) ∧ (¬ ((10 : Int32) ≤ v11_3) →
 (hT h11_ this = 8 ∧
 (∃ a51 : Nat, hR h11_ this 1 = some a51 ∧
 (hT h11_ a51 = 20 ∧
 (∃ j53 : Nat, v11_3 = nI j53 ∧ j53 < 2147483648 ∧ j53 < hL h11_ a51 ∧
 (∃ x54 : Int32, hI h11_ a51 j53 = x54 ∧
 (∀ J42 : Hp → Prop, (∀ (h42_ : Hp), (J11 (v11_3 + (1 : Int32)) h42_) → J42 h42_) →
 ((x54 = p0 →
 wp_X6_doesLack h11_ this (x5 - (1 : Int32)) v11_3 (fun x56 =>
 ((x56 = 0 →
 J42 h11_) ∧ (¬ (x56 = 0) →
 wp_X6_fit h11_ this (x5 - (1 : Int32)) v11_3 (fun h58 =>
 J42 h58))))) ∧ (¬ (x54 = p0) →
 J42 h11_)))))))))) → J11 v11_3 h11_) →
 J11 (0 : Int32) h))))))
set_option maxHeartbeats 4000000 in
set_option maxRecDepth 100000 in
theorem m_X6_work {E : Ev} {l : Launch} (hl : l.stackTraces = false) {h : Hp} {this : Nat} {p0 : Int32} {post : Hp → Prop} (hw : wp_X6_work h this p0 post) : MT E l yX6_work cX6_work 4 none 3 68 0 0 h [.ref this, .int p0] (poV post) (pxN) := by
  refine MT.of (by decide) hl (Nat.le_of_ble_eq_true rfl) (fun p e s m args below meth c C => ?_)
  unfold wp_X6_work at hw
  have C : CX E p l s m args meth c cX6_work 4 "TaktLineModel" "work" none [] := C
  show WS E p l e (rmOf 3 0 0 68) s m args below meth c 4 (vx_MQ below (qcP E (poV post)) (xcP E (pxN)) args s 0 0 (bsA E)) h 0 0 0 [(0, .ref this), (1, .int p0)] []
  refine r_aload_n C dX6_work_0 rfl rfl ?_
  obtain ⟨g1, hw⟩ := hw
  obtain ⟨a2, e2, hw⟩ := hw
  refine r_getA C K8 ob8 g1 (by decide) 19 (by decide) w_832 (fun _ z => z) e2 rfl dX6_work_1 ?_
  refine r_iload_n C dX6_work_4 rfl rfl ?_
  obtain ⟨g3, hw⟩ := hw
  obtain ⟨j4, f4, l4, k4, hw⟩ := hw
  obtain ⟨x5, e5, hw⟩ := hw
  refine a_I C g3 f4 l4 k4 e5 dX6_work_5 ?_
  refine r_iconst (v := (1 : Int32)) C dX6_work_6 (by decide) ?_
  refine r_isub C dX6_work_7 ?_
  refine r_istore_n C dX6_work_8 rfl (by decide) [(0, .ref this), (1, .int p0), (2, .int (x5 - (1 : Int32)))] ⟨rfl, rfl, rfl, trivial⟩ ?_
  refine r_iconst (v := (0 : Int32)) C dX6_work_9 (by decide) ?_
  refine r_istore_n C dX6_work_10 rfl (by decide) [(0, .ref this), (1, .int p0), (2, .int (x5 - (1 : Int32))), (3, .int (0 : Int32))] ⟨rfl, rfl, rfl, rfl, trivial⟩ ?_
  replace hw := hw (fun (v11_3 : Int32) (h11_ : Hp) => WS E p l e (rmOf 3 0 0 68) s m args below meth c 4 (vx_MQ below (qcP E (poV post)) (xcP E (pxN)) args s 0 0 (bsA E)) h11_ 0 0 11 [(0, .ref this), (1, .int p0), (2, .int (x5 - (1 : Int32))), (3, .int v11_3)] []) (by
    intro v11_3 h11_ hv
    replace hw := hv
    clear hv
    refine r_iload_n C dX6_work_11 rfl rfl ?_
    refine r_bipush (v := (10 : Int32)) C dX6_work_12 (by decide) ?_
    refine r_icmp_ge C 48 dX6_work_14 (by decide) (fun z6 => ?_) (fun z6 => ?_)
    · replace hw := hw.1 z6
      refine r_iload_n C dX6_work_48 rfl rfl ?_
      refine r_bipush (v := (6 : Int32)) C dX6_work_49 (by decide) ?_
      replace hw := hw (fun (h141_ : Hp) => WS E p l e (rmOf 3 0 0 68) s m args below meth c 4 (vx_MQ below (qcP E (poV post)) (xcP E (pxN)) args s 0 0 (bsA E)) h141_ 0 0 141 [] []) (by
        intro h141_ hv
        replace hw := hv
        clear hv
        exact r_vret C dX6_work_141 (by decide) (by decide) ⟨rfl, hw⟩
        )
      refine r_icmp_ne C 141 dX6_work_51 (by decide) (fun z7 => ?_) (fun z7 => ?_)
      · replace hw := hw.2 z7
        exact (r_subk hw trivial)
      · replace hw := hw.1 z7
        refine r_aload_n C dX6_work_54 rfl rfl ?_
        obtain ⟨g8, hw⟩ := hw
        obtain ⟨a9, e9, hw⟩ := hw
        refine r_getA C K8 ob8 g8 (by decide) 16 (by decide) w_829 (fun _ z => z) e9 rfl dX6_work_55 ?_
        refine r_iload_n C dX6_work_58 rfl rfl ?_
        obtain ⟨g10, hw⟩ := hw
        obtain ⟨j11, f11, l11, k11, hw⟩ := hw
        obtain ⟨x12, e12, hw⟩ := hw
        refine a_B C g10 f11 l11 k11 e12 dX6_work_59 ?_
        refine r_if_ne C 141 dX6_work_60 (by decide) (fun z13 => ?_) (fun z13 => ?_)
        · replace hw := hw.2 z13
          exact (r_subk hw trivial)
        · replace hw := hw.1 z13
          refine r_aload_n C dX6_work_63 rfl rfl ?_
          obtain ⟨a14, e14, hw⟩ := hw
          refine r_getA C K8 ob8 g8 (by decide) 16 (by decide) w_829 (fun _ z => z) e14 rfl dX6_work_64 ?_
          refine r_iload_n C dX6_work_67 rfl rfl ?_
          refine r_aload_n C dX6_work_68 rfl rfl ?_
          obtain ⟨a15, e15, hw⟩ := hw
          refine r_getA C K8 ob8 g8 (by decide) 18 (by decide) w_831 (fun _ z => z) e15 rfl dX6_work_69 ?_
          refine r_iload_n C dX6_work_72 rfl rfl ?_
          obtain ⟨g16, hw⟩ := hw
          obtain ⟨j17, f17, l17, k17, hw⟩ := hw
          obtain ⟨x18, e18, hw⟩ := hw
          refine a_B C g16 f17 l17 k17 e18 dX6_work_73 ?_
          replace hw := hw (fun (t90_0 : Int32) (h90_ : Hp) => WS E p l e (rmOf 3 0 0 68) s m args below meth c 4 (vx_MQ below (qcP E (poV post)) (xcP E (pxN)) args s 0 0 (bsA E)) h90_ 0 0 90 [(0, .ref this), (2, .int (x5 - (1 : Int32)))] [.int t90_0, .int (x5 - (1 : Int32)), .ref a14]) (by
            intro t90_0 h90_ hv
            replace hw := hv
            clear hv
            obtain ⟨g19, hw⟩ := hw
            obtain ⟨j20, f20, l20, k20, hw⟩ := hw
            obtain ⟨y21, hw⟩ := hw
            obtain ⟨h22, eh22⟩ : ∃ z, z = sI h90_ a14 j20 t90_0 := ⟨_, rfl⟩
            replace hw := hw h22 eh22
            refine s_B C g19 f20 l20 k20 y21 dX6_work_90 eh22 ?_
            refine r_aload_n C dX6_work_91 rfl rfl ?_
            obtain ⟨g23, hw⟩ := hw
            obtain ⟨a24, e24, hw⟩ := hw
            refine r_getA C K8 ob8 g23 (by decide) 17 (by decide) w_830 (fun _ z => z) e24 rfl dX6_work_92 ?_
            refine r_iload_n C dX6_work_95 rfl rfl ?_
            refine r_aload_n C dX6_work_96 rfl rfl ?_
            obtain ⟨a25, e25, hw⟩ := hw
            refine r_getA C K8 ob8 g23 (by decide) 16 (by decide) w_829 (fun _ z => z) e25 rfl dX6_work_97 ?_
            refine r_iload_n C dX6_work_100 rfl rfl ?_
            obtain ⟨g26, hw⟩ := hw
            obtain ⟨j27, f27, l27, k27, hw⟩ := hw
            obtain ⟨x28, e28, hw⟩ := hw
            refine a_B C g26 f27 l27 k27 e28 dX6_work_101 ?_
            replace hw := hw (fun (t110_0 : Int32) => WS E p l e (rmOf 3 0 0 68) s m args below meth c 4 (vx_MQ below (qcP E (poV post)) (xcP E (pxN)) args s 0 0 (bsA E)) h22 0 0 110 [(0, .ref this), (2, .int (x5 - (1 : Int32)))] [.int t110_0, .int (x5 - (1 : Int32)), .ref a24]) (by
              intro t110_0 hv
              replace hw := hv
              clear hv
              obtain ⟨g29, hw⟩ := hw
              obtain ⟨j30, f30, l30, k30, hw⟩ := hw
              obtain ⟨y31, hw⟩ := hw
              obtain ⟨h32, eh32⟩ : ∃ z, z = sI h22 a24 j30 t110_0 := ⟨_, rfl⟩
              replace hw := hw h32 eh32
              refine s_B C g29 f30 l30 k30 y31 dX6_work_110 eh32 ?_
              refine r_aload_n C dX6_work_111 rfl rfl ?_
              refine r_dup C dX6_work_112 rfl ?_
              have g33 : hT h32 this = 8 := by rw [eh32]; exact g23
              obtain ⟨x34, e34, hw⟩ := hw
              refine r_getI C K8 ob8 g33 (by decide) 29 (by decide) w_842 (fun _ z => z) e34 rfl dX6_work_113 ?_
              refine r_aload_n C dX6_work_116 rfl rfl ?_
              obtain ⟨a35, e35, hw⟩ := hw
              refine r_getA C K8 ob8 g33 (by decide) 17 (by decide) w_830 (fun _ z => z) e35 rfl dX6_work_117 ?_
              refine r_iload_n C dX6_work_120 rfl rfl ?_
              obtain ⟨g36, hw⟩ := hw
              obtain ⟨j37, f37, l37, k37, hw⟩ := hw
              obtain ⟨x38, e38, hw⟩ := hw
              refine a_B C g36 f37 l37 k37 e38 dX6_work_121 ?_
              replace hw := hw (fun (t130_0 : Int32) => WS E p l e (rmOf 3 0 0 68) s m args below meth c 4 (vx_MQ below (qcP E (poV post)) (xcP E (pxN)) args s 0 0 (bsA E)) h32 0 0 130 [(0, .ref this), (2, .int (x5 - (1 : Int32)))] [.int t130_0, .int x34, .ref this]) (by
                intro t130_0 hv
                replace hw := hv
                clear hv
                refine r_iadd C dX6_work_130 ?_
                obtain ⟨h39, eh39⟩ : ∃ z, z = sI h32 this 29 (x34 + t130_0) := ⟨_, rfl⟩
                replace hw := hw h39 eh39
                refine p_I C K8 ob8 g33 (by decide) 29 (by decide) w_842 (fun _ z => z) rfl (by decide +kernel) (Nat.le_of_ble_eq_true rfl) rfl dX6_work_131 eh39 ?_
                refine r_aload_n C dX6_work_134 rfl rfl ?_
                have g40 : hT h39 this = 8 := by rw [eh39]; exact g33
                obtain ⟨a41, e41, hw⟩ := hw
                refine r_getA C K8 ob8 g40 (by decide) 18 (by decide) w_831 (fun _ z => z) e41 rfl dX6_work_135 ?_
                refine r_iload_n C dX6_work_138 rfl rfl ?_
                refine r_iconst (v := (0 : Int32)) C dX6_work_139 (by decide) ?_
                obtain ⟨g42, hw⟩ := hw
                obtain ⟨j43, f43, l43, k43, hw⟩ := hw
                obtain ⟨h44, eh44⟩ : ∃ z, z = sI h39 a41 j43 (0 : Int32) := ⟨_, rfl⟩
                replace hw := hw h44 eh44
                refine s_B C g42 f43 l43 k43 (Or.inl rfl) dX6_work_140 eh44 ?_
                exact (r_subk hw trivial)
                )
              refine r_if_eq C 129 dX6_work_122 (by decide) (fun z45 => ?_) (fun z45 => ?_)
              · replace hw := hw.1 z45
                refine r_iconst (v := (0 : Int32)) C dX6_work_129 (by decide) ?_
                exact (r_subk hw ⟨rfl, rfl, trivial⟩)
              · replace hw := hw.2 z45
                refine r_iconst (v := (1 : Int32)) C dX6_work_125 (by decide) ?_
                refine r_goto C 130 dX6_work_126 (by decide) ?_
                exact (r_subk hw ⟨rfl, rfl, trivial⟩)
              )
            refine r_if_ne C 109 dX6_work_102 (by decide) (fun z46 => ?_) (fun z46 => ?_)
            · replace hw := hw.2 z46
              refine r_iconst (v := (0 : Int32)) C dX6_work_109 (by decide) ?_
              exact (r_subk hw ⟨rfl, rfl, trivial⟩)
            · replace hw := hw.1 z46
              refine r_iconst (v := (1 : Int32)) C dX6_work_105 (by decide) ?_
              refine r_goto C 110 dX6_work_106 (by decide) ?_
              exact (r_subk hw ⟨rfl, rfl, trivial⟩)
            )
          replace hw := hw (fun (h89_ : Hp) => WS E p l e (rmOf 3 0 0 68) s m args below meth c 4 (vx_MQ below (qcP E (poV post)) (xcP E (pxN)) args s 0 0 (bsA E)) h89_ 0 0 89 [(0, .ref this), (2, .int (x5 - (1 : Int32)))] [.int (x5 - (1 : Int32)), .ref a14]) (by
            intro h89_ hv
            replace hw := hv
            clear hv
            refine r_iconst (v := (0 : Int32)) C dX6_work_89 (by decide) ?_
            exact (r_subk hw ⟨rfl, rfl, trivial⟩)
            )
          refine r_if_ne C 89 dX6_work_74 (by decide) (fun z47 => ?_) (fun z47 => ?_)
          · replace hw := hw.2 z47
            exact (r_subk hw ⟨rfl, rfl, trivial⟩)
          · replace hw := hw.1 z47
            refine r_aload_n C dX6_work_77 rfl rfl ?_
            refine r_iload_n C dX6_work_78 rfl rfl ?_
            refine r_callV (As := [.int (x5 - (1 : Int32))]) (st := [.int (x5 - (1 : Int32)), .ref a14]) C (m_X6_fits hl hw) v_X6_fits w_1016 K8 g8 (by decide) ob8 rfl ⟨leb rfl, leb rfl⟩ ⟨leb rfl, leb rfl⟩ rfl (leb rfl) dX6_work_79 (fun _ _ z => z.elim) (kkI (K := fun hK sK => WS E p l e (rmOf 3 0 0 68) s m args below meth c 4 (vx_MQ below (qcP E (poV post)) (xcP E (pxN)) args s 0 0 (bsA E)) hK (0 + 0) (0 + 0) (79 + 3) [(0, .ref this), (1, .int p0), (2, .int (x5 - (1 : Int32))), (3, .int v11_3)] sK) (fun x48 h48 hv => ?_))
            replace hw := hv
            clear hv
            refine r_if_eq C 89 dX6_work_82 (by decide) (fun z49 => ?_) (fun z49 => ?_)
            · replace hw := hw.1 z49
              exact (r_subk hw ⟨rfl, rfl, trivial⟩)
            · replace hw := hw.2 z49
              refine r_iconst (v := (1 : Int32)) C dX6_work_85 (by decide) ?_
              refine r_goto C 90 dX6_work_86 (by decide) ?_
              exact (r_subk hw ⟨rfl, rfl, trivial⟩)
    · replace hw := hw.2 z6
      refine r_aload_n C dX6_work_17 rfl rfl ?_
      obtain ⟨g50, hw⟩ := hw
      obtain ⟨a51, e51, hw⟩ := hw
      refine r_getA C K8 ob8 g50 (by decide) 1 (by decide) w_814 (fun _ z => z) e51 rfl dX6_work_18 ?_
      refine r_iload_n C dX6_work_21 rfl rfl ?_
      obtain ⟨g52, hw⟩ := hw
      obtain ⟨j53, f53, l53, k53, hw⟩ := hw
      obtain ⟨x54, e54, hw⟩ := hw
      refine a_I C g52 f53 l53 k53 e54 dX6_work_22 ?_
      refine r_iload_n C dX6_work_23 rfl rfl ?_
      replace hw := hw (fun (h42_ : Hp) => WS E p l e (rmOf 3 0 0 68) s m args below meth c 4 (vx_MQ below (qcP E (poV post)) (xcP E (pxN)) args s 0 0 (bsA E)) h42_ 0 0 42 [(0, .ref this), (1, .int p0), (2, .int (x5 - (1 : Int32))), (3, .int v11_3)] []) (by
        intro h42_ hv
        replace hw := hv
        clear hv
        refine r_iinc C (v11_3 + (1 : Int32)) dX6_work_42 rfl rfl (by decide) [(0, .ref this), (1, .int p0), (2, .int (x5 - (1 : Int32))), (3, .int (v11_3 + (1 : Int32)))] ⟨rfl, rfl, rfl, rfl, trivial⟩ ?_
        refine r_goto C 11 dX6_work_45 (by decide) ?_
        exact (r_subk hw ⟨rfl, rfl, rfl, rfl, trivial⟩)
        )
      refine r_icmp_ne C 42 dX6_work_24 (by decide) (fun z55 => ?_) (fun z55 => ?_)
      · replace hw := hw.2 z55
        exact (r_subk hw ⟨rfl, rfl, rfl, rfl, trivial⟩)
      · replace hw := hw.1 z55
        refine r_aload_n C dX6_work_27 rfl rfl ?_
        refine r_iload_n C dX6_work_28 rfl rfl ?_
        refine r_iload_n C dX6_work_29 rfl rfl ?_
        refine r_callV (As := [.int (x5 - (1 : Int32)), .int v11_3]) (st := []) C (m_X6_doesLack hl hw) v_X6_doesLack w_959 K8 g50 (by decide) ob8 rfl ⟨leb rfl, leb rfl⟩ ⟨leb rfl, leb rfl⟩ rfl (leb rfl) dX6_work_30 (fun _ _ z => z.elim) (kpI (K := fun hK sK => WS E p l e (rmOf 3 0 0 68) s m args below meth c 4 (vx_MQ below (qcP E (poV post)) (xcP E (pxN)) args s 0 0 (bsA E)) hK (0 + 0) (0 + 0) (30 + 3) [(0, .ref this), (1, .int p0), (2, .int (x5 - (1 : Int32))), (3, .int v11_3)] sK) (fun x56 hv => ?_))
        replace hw := hv
        clear hv
        refine r_if_eq C 42 dX6_work_33 (by decide) (fun z57 => ?_) (fun z57 => ?_)
        · replace hw := hw.1 z57
          exact (r_subk hw ⟨rfl, rfl, rfl, rfl, trivial⟩)
        · replace hw := hw.2 z57
          refine r_aload_n C dX6_work_36 rfl rfl ?_
          refine r_iload_n C dX6_work_37 rfl rfl ?_
          refine r_iload_n C dX6_work_38 rfl rfl ?_
          refine r_callV (As := [.int (x5 - (1 : Int32)), .int v11_3]) (st := []) C (m_X6_fit hl hw) v_X6_fit w_1068 K8 g50 (by decide) ob8 rfl ⟨leb rfl, leb rfl⟩ ⟨leb rfl, leb rfl⟩ rfl (leb rfl) dX6_work_39 (fun _ _ z => z.elim) (kkV (K := fun hK sK => WS E p l e (rmOf 3 0 0 68) s m args below meth c 4 (vx_MQ below (qcP E (poV post)) (xcP E (pxN)) args s 0 0 (bsA E)) hK (0 + 0) (0 + 0) (39 + 3) [(0, .ref this), (1, .int p0), (2, .int (x5 - (1 : Int32))), (3, .int v11_3)] sK) (fun h58 hv => ?_))
          replace hw := hv
          clear hv
          exact (r_subk hw ⟨rfl, rfl, rfl, rfl, trivial⟩)
    )
  exact (r_subk hw ⟨rfl, rfl, rfl, rfl, trivial⟩)
theorem v_X6_work : MV yX6_work cX6_work 4 none 1 := ⟨w_1067, w_1066, w_52, w_60, ⟨by decide +kernel, by decide +kernel, by decide +kernel⟩⟩

def wp_X6_takt (h : Hp) (this : Nat) (p0 : Int32) (post : Int32 → Hp → Prop) : Prop :=
wp_X6_in h p0 (1 : Int32) (20 : Int32) (fun x1 =>
 (∀ J16 : Int32 → Prop, (∀ (t16_0 : Int32), (hT h this = 8 ∧
 wp_X6_goesWell h this t16_0 (fun x2 h2 =>
 ((x2 = 0 →
 post (0 : Int32) h2) ∧ (¬ (x2 = 0) →
 (∀ J28 : Int32 → Int32 → Hp → Prop, (∀ (v28_2 : Int32) (v28_3 : Int32) (h28_ : Hp), ((p0 ≤ v28_3 →
 post v28_2 h28_) ∧ (¬ (p0 ≤ v28_3) →
 (∀ J37 : Int32 → Hp → Prop, (∀ (v37_4 : Int32) (h37_ : Hp), ((v37_4 < 0 →
 (hT h37_ this = 8 ∧
 wp_X6_moveOn h37_ this (fun x7 h7 =>
 (hT h7 this = 8 ∧
 wp_X6_comeIn h7 this (fun h9 =>
 (∀ J78 : Int32 → Hp → Prop, (∀ (v78_4 : Int32) (h78_ : Hp), (((8 : Int32) ≤ v78_4 →
 (hT h78_ this = 8 ∧
 (∃ x13 : Int32, hI h78_ this 27 = x13 ∧
 (∀ h14, h14 = sI h78_ this 27 (x13 + (1 : Int32)) →
 J28 (v28_2 + x7) (v28_3 + (1 : Int32)) h14)))) ∧ (¬ ((8 : Int32) ≤ v78_4) →
 (hT h78_ this = 8 ∧
 (∃ a16 : Nat, hR h78_ this 19 = some a16 ∧
 (hT h78_ a16 = 20 ∧
 (∃ j18 : Nat, v78_4 = nI j18 ∧ j18 < 2147483648 ∧ j18 < hL h78_ a16 ∧
 (∃ x19 : Int32, hI h78_ a16 j18 = x19 ∧
 (∀ J101 : Hp → Prop, (∀ (h101_ : Hp), (J78 (v78_4 + (1 : Int32)) h101_) → J101 h101_) →
 ((x19 ≤ 0 →
 J101 h78_) ∧ (¬ (x19 ≤ 0) →
 wp_X6_work h78_ this v78_4 (fun h21 =>
 J101 h21))))))))))) → J78 v78_4 h78_) →
 J78 (0 : Int32) h9)))))) ∧ (¬ (v37_4 < 0) →
 (hT h37_ this = 8 ∧
 (∃ a23 : Nat, hR h37_ this 19 = some a23 ∧
 (hT h37_ a23 = 20 ∧
 (∃ j25 : Nat, v37_4 = nI j25 ∧ j25 < 2147483648 ∧ j25 < hL h37_ a23 ∧
 (∃ x26 : Int32, hI h37_ a23 j25 = x26 ∧
 (∀ J58 : Hp → Prop, (∀ (h58_ : Hp), (J37 (v37_4 + (-1 : Int32)) h58_) → J58 h58_) →
 ((x26 ≤ 0 →
 J58 h37_) ∧ (¬ (x26 ≤ 0) →
 wp_X6_sendBack h37_ this v37_4 (fun h28 =>
 J58 h28))))))))))) → J37 v37_4 h37_) →
 J37 (7 : Int32) h28_))) → J28 v28_2 v28_3 h28_) →
 J28 (0 : Int32) (0 : Int32) h2))))) → J16 t16_0) →
 ((x1 = 0 →
 J16 (1 : Int32)) ∧ (¬ (x1 = 0) →
 J16 (0 : Int32)))))
set_option maxHeartbeats 4000000 in
set_option maxRecDepth 100000 in
theorem m_X6_takt {E : Ev} {l : Launch} (hl : l.stackTraces = false) {h : Hp} {this : Nat} {p0 : Int32} {post : Int32 → Hp → Prop} (hw : wp_X6_takt h this p0 post) : MT E l yX6_takt cX6_takt 5 (some .int) 4 93 0 0 h [.ref this, .int p0] (poI post) (pxN) := by
  refine MT.of (by decide) hl (Nat.le_of_ble_eq_true rfl) (fun p e s m args below meth c C => ?_)
  unfold wp_X6_takt at hw
  have C : CX E p l s m args meth c cX6_takt 5 "TaktLineModel" "takt" (some .int) [] := C
  show WS E p l e (rmOf 4 0 0 93) s m args below meth c 5 (vx_MQ below (qcP E (poI post)) (xcP E (pxN)) args s 0 0 (bsA E)) h 0 0 0 [(0, .ref this), (1, .int p0)] []
  refine r_aload_n C dX6_takt_0 rfl rfl ?_
  refine r_iload_n C dX6_takt_1 rfl rfl ?_
  refine r_iconst (v := (1 : Int32)) C dX6_takt_2 (by decide) ?_
  refine r_bipush (v := (20 : Int32)) C dX6_takt_3 (by decide) ?_
  refine r_callS (As := [.int p0, .int (1 : Int32), .int (20 : Int32)]) (st := [.ref this]) C (m_X6_in hl hw) v_X6_in w_913 rfl ⟨leb rfl, leb rfl⟩ ⟨leb rfl, leb rfl⟩ rfl (leb rfl) dX6_takt_5 (fun _ _ z => z.elim) (kpI (K := fun hK sK => WS E p l e (rmOf 4 0 0 93) s m args below meth c 5 (vx_MQ below (qcP E (poI post)) (xcP E (pxN)) args s 0 0 (bsA E)) hK (0 + 0) (0 + 0) (5 + 3) [(0, .ref this), (1, .int p0)] sK) (fun x1 hv => ?_))
  replace hw := hv
  clear hv
  replace hw := hw (fun (t16_0 : Int32) => WS E p l e (rmOf 4 0 0 93) s m args below meth c 5 (vx_MQ below (qcP E (poI post)) (xcP E (pxN)) args s 0 0 (bsA E)) h 0 0 16 [(0, .ref this), (1, .int p0)] [.int t16_0, .ref this]) (by
    intro t16_0 hv
    replace hw := hv
    clear hv
    obtain ⟨g3, hw⟩ := hw
    refine r_callV (As := [.int t16_0]) (st := []) C (m_X6_goesWell hl hw) v_X6_goesWell w_919 K8 g3 (by decide) ob8 rfl ⟨leb rfl, leb rfl⟩ ⟨leb rfl, leb rfl⟩ rfl (leb rfl) dX6_takt_16 (fun _ _ z => z.elim) (kkI (K := fun hK sK => WS E p l e (rmOf 4 0 0 93) s m args below meth c 5 (vx_MQ below (qcP E (poI post)) (xcP E (pxN)) args s 0 0 (bsA E)) hK (0 + 0) (0 + 0) (16 + 3) [(0, .ref this), (1, .int p0)] sK) (fun x2 h2 hv => ?_))
    replace hw := hv
    clear hv
    refine r_if_ne C 24 dX6_takt_19 (by decide) (fun z4 => ?_) (fun z4 => ?_)
    · replace hw := hw.2 z4
      refine r_iconst (v := (0 : Int32)) C dX6_takt_24 (by decide) ?_
      refine r_istore_n C dX6_takt_25 rfl (by decide) [(0, .ref this), (1, .int p0), (2, .int (0 : Int32))] ⟨rfl, rfl, rfl, trivial⟩ ?_
      refine r_iconst (v := (0 : Int32)) C dX6_takt_26 (by decide) ?_
      refine r_istore_n C dX6_takt_27 rfl (by decide) [(0, .ref this), (1, .int p0), (2, .int (0 : Int32)), (3, .int (0 : Int32))] ⟨rfl, rfl, rfl, rfl, trivial⟩ ?_
      replace hw := hw (fun (v28_2 : Int32) (v28_3 : Int32) (h28_ : Hp) => WS E p l e (rmOf 4 0 0 93) s m args below meth c 5 (vx_MQ below (qcP E (poI post)) (xcP E (pxN)) args s 0 0 (bsA E)) h28_ 0 0 28 [(0, .ref this), (1, .int p0), (2, .int v28_2), (3, .int v28_3)] []) (by
        intro v28_2 v28_3 h28_ hv
        replace hw := hv
        clear hv
        refine r_iload_n C dX6_takt_28 rfl rfl ?_
        refine r_iload_n C dX6_takt_29 rfl rfl ?_
        refine r_icmp_ge C 123 dX6_takt_30 (by decide) (fun z5 => ?_) (fun z5 => ?_)
        · replace hw := hw.1 z5
          refine r_iload_n C dX6_takt_123 rfl rfl ?_
          exact r_iret C dX6_takt_124 (by decide) (by decide) ⟨_, rfl, hw⟩
        · replace hw := hw.2 z5
          refine r_bipush (v := (7 : Int32)) C dX6_takt_33 (by decide) ?_
          refine r_istore C dX6_takt_35 (by decide) [(0, .ref this), (1, .int p0), (2, .int v28_2), (3, .int v28_3), (4, .int (7 : Int32))] ⟨rfl, rfl, rfl, rfl, rfl, trivial⟩ ?_
          replace hw := hw (fun (v37_4 : Int32) (h37_ : Hp) => WS E p l e (rmOf 4 0 0 93) s m args below meth c 5 (vx_MQ below (qcP E (poI post)) (xcP E (pxN)) args s 0 0 (bsA E)) h37_ 0 0 37 [(0, .ref this), (1, .int p0), (2, .int v28_2), (3, .int v28_3), (4, .int v37_4)] []) (by
            intro v37_4 h37_ hv
            replace hw := hv
            clear hv
            refine r_iload C dX6_takt_37 rfl ?_
            refine r_if_lt C 64 dX6_takt_39 (by decide) (fun z6 => ?_) (fun z6 => ?_)
            · replace hw := hw.1 z6
              refine r_iload_n C dX6_takt_64 rfl rfl ?_
              refine r_aload_n C dX6_takt_65 rfl rfl ?_
              obtain ⟨g8, hw⟩ := hw
              refine r_callV (As := []) (st := [.int v28_2]) C (m_X6_moveOn hl hw) v_X6_moveOn w_1048 K8 g8 (by decide) ob8 rfl ⟨leb rfl, leb rfl⟩ ⟨leb rfl, leb rfl⟩ rfl (leb rfl) dX6_takt_66 (fun _ _ z => z.elim) (kkI (K := fun hK sK => WS E p l e (rmOf 4 0 0 93) s m args below meth c 5 (vx_MQ below (qcP E (poI post)) (xcP E (pxN)) args s 0 0 (bsA E)) hK (0 + 0) (0 + 0) (66 + 3) [(0, .ref this), (1, .int p0), (2, .int v28_2), (3, .int v28_3), (4, .int v37_4)] sK) (fun x7 h7 hv => ?_))
              replace hw := hv
              clear hv
              refine r_iadd C dX6_takt_69 ?_
              refine r_istore_n C dX6_takt_70 rfl (by decide) [(0, .ref this), (1, .int p0), (2, .int (v28_2 + x7)), (3, .int v28_3)] ⟨rfl, rfl, rfl, rfl, trivial⟩ ?_
              refine r_aload_n C dX6_takt_71 rfl rfl ?_
              obtain ⟨g10, hw⟩ := hw
              refine r_callV (As := []) (st := []) C (m_X6_comeIn hl hw) v_X6_comeIn w_1060 K8 g10 (by decide) ob8 rfl ⟨leb rfl, leb rfl⟩ ⟨leb rfl, leb rfl⟩ rfl (leb rfl) dX6_takt_72 (fun _ _ z => z.elim) (kkV (K := fun hK sK => WS E p l e (rmOf 4 0 0 93) s m args below meth c 5 (vx_MQ below (qcP E (poI post)) (xcP E (pxN)) args s 0 0 (bsA E)) hK (0 + 0) (0 + 0) (72 + 3) [(0, .ref this), (1, .int p0), (2, .int (v28_2 + x7)), (3, .int v28_3)] sK) (fun h9 hv => ?_))
              replace hw := hv
              clear hv
              refine r_iconst (v := (0 : Int32)) C dX6_takt_75 (by decide) ?_
              refine r_istore C dX6_takt_76 (by decide) [(0, .ref this), (1, .int p0), (2, .int (v28_2 + x7)), (3, .int v28_3), (4, .int (0 : Int32))] ⟨rfl, rfl, rfl, rfl, rfl, trivial⟩ ?_
              replace hw := hw (fun (v78_4 : Int32) (h78_ : Hp) => WS E p l e (rmOf 4 0 0 93) s m args below meth c 5 (vx_MQ below (qcP E (poI post)) (xcP E (pxN)) args s 0 0 (bsA E)) h78_ 0 0 78 [(0, .ref this), (1, .int p0), (2, .int (v28_2 + x7)), (3, .int v28_3), (4, .int v78_4)] []) (by
                intro v78_4 h78_ hv
                replace hw := hv
                clear hv
                refine r_iload C dX6_takt_78 rfl ?_
                refine r_bipush (v := (8 : Int32)) C dX6_takt_80 (by decide) ?_
                refine r_icmp_ge C 107 dX6_takt_82 (by decide) (fun z11 => ?_) (fun z11 => ?_)
                · replace hw := hw.1 z11
                  refine r_aload_n C dX6_takt_107 rfl rfl ?_
                  refine r_dup C dX6_takt_108 rfl ?_
                  obtain ⟨g12, hw⟩ := hw
                  obtain ⟨x13, e13, hw⟩ := hw
                  refine r_getI C K8 ob8 g12 (by decide) 27 (by decide) w_840 (fun _ z => z) e13 rfl dX6_takt_109 ?_
                  refine r_iconst (v := (1 : Int32)) C dX6_takt_112 (by decide) ?_
                  refine r_iadd C dX6_takt_113 ?_
                  obtain ⟨h14, eh14⟩ : ∃ z, z = sI h78_ this 27 (x13 + (1 : Int32)) := ⟨_, rfl⟩
                  replace hw := hw h14 eh14
                  refine p_I C K8 ob8 g12 (by decide) 27 (by decide) w_840 (fun _ z => z) rfl (by decide +kernel) (Nat.le_of_ble_eq_true rfl) rfl dX6_takt_114 eh14 ?_
                  refine r_iinc C (v28_3 + (1 : Int32)) dX6_takt_117 rfl rfl (by decide) [(0, .ref this), (1, .int p0), (2, .int (v28_2 + x7)), (3, .int (v28_3 + (1 : Int32)))] ⟨rfl, rfl, rfl, rfl, trivial⟩ ?_
                  refine r_goto C 28 dX6_takt_120 (by decide) ?_
                  exact (r_subk hw ⟨rfl, rfl, rfl, rfl, trivial⟩)
                · replace hw := hw.2 z11
                  refine r_aload_n C dX6_takt_85 rfl rfl ?_
                  obtain ⟨g15, hw⟩ := hw
                  obtain ⟨a16, e16, hw⟩ := hw
                  refine r_getA C K8 ob8 g15 (by decide) 19 (by decide) w_832 (fun _ z => z) e16 rfl dX6_takt_86 ?_
                  refine r_iload C dX6_takt_89 rfl ?_
                  obtain ⟨g17, hw⟩ := hw
                  obtain ⟨j18, f18, l18, k18, hw⟩ := hw
                  obtain ⟨x19, e19, hw⟩ := hw
                  refine a_I C g17 f18 l18 k18 e19 dX6_takt_91 ?_
                  replace hw := hw (fun (h101_ : Hp) => WS E p l e (rmOf 4 0 0 93) s m args below meth c 5 (vx_MQ below (qcP E (poI post)) (xcP E (pxN)) args s 0 0 (bsA E)) h101_ 0 0 101 [(0, .ref this), (1, .int p0), (2, .int (v28_2 + x7)), (3, .int v28_3), (4, .int v78_4)] []) (by
                    intro h101_ hv
                    replace hw := hv
                    clear hv
                    refine r_iinc C (v78_4 + (1 : Int32)) dX6_takt_101 rfl rfl (by decide) [(0, .ref this), (1, .int p0), (2, .int (v28_2 + x7)), (3, .int v28_3), (4, .int (v78_4 + (1 : Int32)))] ⟨rfl, rfl, rfl, rfl, rfl, trivial⟩ ?_
                    refine r_goto C 78 dX6_takt_104 (by decide) ?_
                    exact (r_subk hw ⟨rfl, rfl, rfl, rfl, rfl, trivial⟩)
                    )
                  refine r_if_le C 101 dX6_takt_92 (by decide) (fun z20 => ?_) (fun z20 => ?_)
                  · replace hw := hw.1 z20
                    exact (r_subk hw ⟨rfl, rfl, rfl, rfl, rfl, trivial⟩)
                  · replace hw := hw.2 z20
                    refine r_aload_n C dX6_takt_95 rfl rfl ?_
                    refine r_iload C dX6_takt_96 rfl ?_
                    refine r_callV (As := [.int v78_4]) (st := []) C (m_X6_work hl hw) v_X6_work w_1064 K8 g15 (by decide) ob8 rfl ⟨leb rfl, leb rfl⟩ ⟨leb rfl, leb rfl⟩ rfl (leb rfl) dX6_takt_98 (fun _ _ z => z.elim) (kkV (K := fun hK sK => WS E p l e (rmOf 4 0 0 93) s m args below meth c 5 (vx_MQ below (qcP E (poI post)) (xcP E (pxN)) args s 0 0 (bsA E)) hK (0 + 0) (0 + 0) (98 + 3) [(0, .ref this), (1, .int p0), (2, .int (v28_2 + x7)), (3, .int v28_3), (4, .int v78_4)] sK) (fun h21 hv => ?_))
                    replace hw := hv
                    clear hv
                    exact (r_subk hw ⟨rfl, rfl, rfl, rfl, rfl, trivial⟩)
                )
              exact (r_subk hw ⟨rfl, rfl, rfl, rfl, rfl, trivial⟩)
            · replace hw := hw.2 z6
              refine r_aload_n C dX6_takt_42 rfl rfl ?_
              obtain ⟨g22, hw⟩ := hw
              obtain ⟨a23, e23, hw⟩ := hw
              refine r_getA C K8 ob8 g22 (by decide) 19 (by decide) w_832 (fun _ z => z) e23 rfl dX6_takt_43 ?_
              refine r_iload C dX6_takt_46 rfl ?_
              obtain ⟨g24, hw⟩ := hw
              obtain ⟨j25, f25, l25, k25, hw⟩ := hw
              obtain ⟨x26, e26, hw⟩ := hw
              refine a_I C g24 f25 l25 k25 e26 dX6_takt_48 ?_
              replace hw := hw (fun (h58_ : Hp) => WS E p l e (rmOf 4 0 0 93) s m args below meth c 5 (vx_MQ below (qcP E (poI post)) (xcP E (pxN)) args s 0 0 (bsA E)) h58_ 0 0 58 [(0, .ref this), (1, .int p0), (2, .int v28_2), (3, .int v28_3), (4, .int v37_4)] []) (by
                intro h58_ hv
                replace hw := hv
                clear hv
                refine r_iinc C (v37_4 + (-1 : Int32)) dX6_takt_58 rfl rfl (by decide) [(0, .ref this), (1, .int p0), (2, .int v28_2), (3, .int v28_3), (4, .int (v37_4 + (-1 : Int32)))] ⟨rfl, rfl, rfl, rfl, rfl, trivial⟩ ?_
                refine r_goto C 37 dX6_takt_61 (by decide) ?_
                exact (r_subk hw ⟨rfl, rfl, rfl, rfl, rfl, trivial⟩)
                )
              refine r_if_le C 58 dX6_takt_49 (by decide) (fun z27 => ?_) (fun z27 => ?_)
              · replace hw := hw.1 z27
                exact (r_subk hw ⟨rfl, rfl, rfl, rfl, rfl, trivial⟩)
              · replace hw := hw.2 z27
                refine r_aload_n C dX6_takt_52 rfl rfl ?_
                refine r_iload C dX6_takt_53 rfl ?_
                refine r_callV (As := [.int v37_4]) (st := []) C (m_X6_sendBack hl hw) v_X6_sendBack w_1040 K8 g22 (by decide) ob8 rfl ⟨leb rfl, leb rfl⟩ ⟨leb rfl, leb rfl⟩ rfl (leb rfl) dX6_takt_55 (fun _ _ z => z.elim) (kkV (K := fun hK sK => WS E p l e (rmOf 4 0 0 93) s m args below meth c 5 (vx_MQ below (qcP E (poI post)) (xcP E (pxN)) args s 0 0 (bsA E)) hK (0 + 0) (0 + 0) (55 + 3) [(0, .ref this), (1, .int p0), (2, .int v28_2), (3, .int v28_3), (4, .int v37_4)] sK) (fun h28 hv => ?_))
                replace hw := hv
                clear hv
                exact (r_subk hw ⟨rfl, rfl, rfl, rfl, rfl, trivial⟩)
            )
          exact (r_subk hw ⟨rfl, rfl, rfl, rfl, rfl, trivial⟩)
        )
      exact (r_subk hw ⟨rfl, rfl, rfl, rfl, trivial⟩)
    · replace hw := hw.1 z4
      refine r_iconst (v := (0 : Int32)) C dX6_takt_22 (by decide) ?_
      exact r_iret C dX6_takt_23 (by decide) (by decide) ⟨_, rfl, hw⟩
    )
  refine r_if_eq C 15 dX6_takt_8 (by decide) (fun z29 => ?_) (fun z29 => ?_)
  · replace hw := hw.1 z29
    refine r_iconst (v := (1 : Int32)) C dX6_takt_15 (by decide) ?_
    exact (r_subk hw ⟨rfl, rfl, trivial⟩)
  · replace hw := hw.2 z29
    refine r_iconst (v := (0 : Int32)) C dX6_takt_11 (by decide) ?_
    refine r_goto C 16 dX6_takt_12 (by decide) ?_
    exact (r_subk hw ⟨rfl, rfl, trivial⟩)
theorem v_X6_takt : MV yX6_takt cX6_takt 5 (some .int) 1 := ⟨w_1039, w_1037, w_1038, w_60, ⟨by decide +kernel, by decide +kernel, by decide +kernel⟩⟩

def wp_X6_fault (h : Hp) (this : Nat) (p0 : Int32) (post : Int32 → Hp → Prop) : Prop :=
(hT h this = 8 ∧
 wp_X6_isCar h this p0 (fun x1 =>
 (∀ J30 : Int32 → Prop, (∀ (t30_0 : Int32), (wp_X6_goesWell h this t30_0 (fun x3 h3 =>
 ((x3 = 0 →
 post (0 : Int32) h3) ∧ (¬ (x3 = 0) →
 (hT h3 this = 8 ∧
 (∃ a6 : Nat, hR h3 this 18 = some a6 ∧
 (hT h3 a6 = 21 ∧
 (∃ j8 : Nat, p0 = nI j8 ∧ j8 < 2147483648 ∧ j8 < hL h3 a6 ∧
 (∃ x9 : Int32, hI h3 a6 j8 = x9 ∧
 (∃ a10 : Nat, hR h3 this 18 = some a10 ∧
 (hT h3 a10 = 21 ∧
 (∃ j12 : Nat, p0 = nI j12 ∧ j12 < 2147483648 ∧ j12 < hL h3 a10 ∧
 (∀ h13, h13 = sI h3 a10 j12 (1 : Int32) →
 (∀ J61 : Int32 → Prop, (∀ (t61_0 : Int32), (b01 t61_0 ∧
 post t61_0 h13) → J61 t61_0) →
 ((x9 = 0 →
 J61 (1 : Int32)) ∧ (¬ (x9 = 0) →
 J61 (0 : Int32))))))))))))))))) → J30 t30_0) →
 ((x1 = 0 →
 J30 (1 : Int32)) ∧ (¬ (x1 = 0) →
 (∃ a17 : Nat, hR h this 12 = some a17 ∧
 (hT h a17 = 20 ∧
 (∃ j19 : Nat, p0 = nI j19 ∧ j19 < 2147483648 ∧ j19 < hL h a17 ∧
 (∃ x20 : Int32, hI h a17 j19 = x20 ∧
 ((x20 = (3 : Int32) →
 J30 (2 : Int32)) ∧ (¬ (x20 = (3 : Int32)) →
 J30 (0 : Int32))))))))))))
set_option maxHeartbeats 4000000 in
set_option maxRecDepth 100000 in
theorem m_X6_fault {E : Ev} {l : Launch} (hl : l.stackTraces = false) {h : Hp} {this : Nat} {p0 : Int32} {post : Int32 → Hp → Prop} (hw : wp_X6_fault h this p0 post) : MT E l yX6_fault cX6_fault 4 (some .boolean) 2 43 0 0 h [.ref this, .int p0] (poI post) (pxN) := by
  refine MT.of (by decide) hl (Nat.le_of_ble_eq_true rfl) (fun p e s m args below meth c C => ?_)
  unfold wp_X6_fault at hw
  have C : CX E p l s m args meth c cX6_fault 4 "TaktLineModel" "fault" (some .boolean) [] := C
  show WS E p l e (rmOf 2 0 0 43) s m args below meth c 4 (vx_MQ below (qcP E (poI post)) (xcP E (pxN)) args s 0 0 (bsA E)) h 0 0 0 [(0, .ref this), (1, .int p0)] []
  refine r_aload_n C dX6_fault_0 rfl rfl ?_
  refine r_iload_n C dX6_fault_1 rfl rfl ?_
  obtain ⟨g2, hw⟩ := hw
  refine r_callV (As := [.int p0]) (st := []) C (m_X6_isCar hl hw) v_X6_isCar w_943 K8 g2 (by decide) ob8 rfl ⟨leb rfl, leb rfl⟩ ⟨leb rfl, leb rfl⟩ rfl (leb rfl) dX6_fault_2 (fun _ _ z => z.elim) (kpI (K := fun hK sK => WS E p l e (rmOf 2 0 0 43) s m args below meth c 4 (vx_MQ below (qcP E (poI post)) (xcP E (pxN)) args s 0 0 (bsA E)) hK (0 + 0) (0 + 0) (2 + 3) [(0, .ref this), (1, .int p0)] sK) (fun x1 hv => ?_))
  replace hw := hv
  clear hv
  refine r_istore_n C dX6_fault_5 rfl (by decide) [(0, .ref this), (1, .int p0), (2, .int x1)] ⟨rfl, rfl, rfl, trivial⟩ ?_
  refine r_aload_n C dX6_fault_6 rfl rfl ?_
  refine r_iload_n C dX6_fault_7 rfl rfl ?_
  replace hw := hw (fun (t30_0 : Int32) => WS E p l e (rmOf 2 0 0 43) s m args below meth c 4 (vx_MQ below (qcP E (poI post)) (xcP E (pxN)) args s 0 0 (bsA E)) h 0 0 30 [(0, .ref this), (1, .int p0)] [.int t30_0, .ref this]) (by
    intro t30_0 hv
    replace hw := hv
    clear hv
    refine r_callV (As := [.int t30_0]) (st := []) C (m_X6_goesWell hl hw) v_X6_goesWell w_919 K8 g2 (by decide) ob8 rfl ⟨leb rfl, leb rfl⟩ ⟨leb rfl, leb rfl⟩ rfl (leb rfl) dX6_fault_30 (fun _ _ z => z.elim) (kkI (K := fun hK sK => WS E p l e (rmOf 2 0 0 43) s m args below meth c 4 (vx_MQ below (qcP E (poI post)) (xcP E (pxN)) args s 0 0 (bsA E)) hK (0 + 0) (0 + 0) (30 + 3) [(0, .ref this), (1, .int p0)] sK) (fun x3 h3 hv => ?_))
    replace hw := hv
    clear hv
    refine r_if_ne C 38 dX6_fault_33 (by decide) (fun z4 => ?_) (fun z4 => ?_)
    · replace hw := hw.2 z4
      refine r_aload_n C dX6_fault_38 rfl rfl ?_
      obtain ⟨g5, hw⟩ := hw
      obtain ⟨a6, e6, hw⟩ := hw
      refine r_getA C K8 ob8 g5 (by decide) 18 (by decide) w_831 (fun _ z => z) e6 rfl dX6_fault_39 ?_
      refine r_iload_n C dX6_fault_42 rfl rfl ?_
      obtain ⟨g7, hw⟩ := hw
      obtain ⟨j8, f8, l8, k8, hw⟩ := hw
      obtain ⟨x9, e9, hw⟩ := hw
      refine a_B C g7 f8 l8 k8 e9 dX6_fault_43 ?_
      refine r_istore_n C dX6_fault_44 rfl (by decide) [(0, .ref this), (1, .int p0), (3, .int x9)] ⟨rfl, rfl, rfl, trivial⟩ ?_
      refine r_aload_n C dX6_fault_45 rfl rfl ?_
      obtain ⟨a10, e10, hw⟩ := hw
      refine r_getA C K8 ob8 g5 (by decide) 18 (by decide) w_831 (fun _ z => z) e10 rfl dX6_fault_46 ?_
      refine r_iload_n C dX6_fault_49 rfl rfl ?_
      refine r_iconst (v := (1 : Int32)) C dX6_fault_50 (by decide) ?_
      obtain ⟨g11, hw⟩ := hw
      obtain ⟨j12, f12, l12, k12, hw⟩ := hw
      obtain ⟨h13, eh13⟩ : ∃ z, z = sI h3 a10 j12 (1 : Int32) := ⟨_, rfl⟩
      replace hw := hw h13 eh13
      refine s_B C g11 f12 l12 k12 (Or.inr rfl) dX6_fault_51 eh13 ?_
      refine r_iload_n C dX6_fault_52 rfl rfl ?_
      replace hw := hw (fun (t61_0 : Int32) => WS E p l e (rmOf 2 0 0 43) s m args below meth c 4 (vx_MQ below (qcP E (poI post)) (xcP E (pxN)) args s 0 0 (bsA E)) h13 0 0 61 [] [.int t61_0]) (by
        intro t61_0 hv
        replace hw := hv
        clear hv
        obtain ⟨y14, hw⟩ := hw
        exact r_zret C y14 dX6_fault_61 (by decide) (by decide) ⟨_, rfl, hw⟩
        )
      refine r_if_ne C 60 dX6_fault_53 (by decide) (fun z15 => ?_) (fun z15 => ?_)
      · replace hw := hw.2 z15
        refine r_iconst (v := (0 : Int32)) C dX6_fault_60 (by decide) ?_
        exact (r_subk hw trivial)
      · replace hw := hw.1 z15
        refine r_iconst (v := (1 : Int32)) C dX6_fault_56 (by decide) ?_
        refine r_goto C 61 dX6_fault_57 (by decide) ?_
        exact (r_subk hw trivial)
    · replace hw := hw.1 z4
      refine r_iconst (v := (0 : Int32)) C dX6_fault_36 (by decide) ?_
      exact r_zret C (Or.inl rfl) dX6_fault_37 (by decide) (by decide) ⟨_, rfl, hw⟩
    )
  refine r_if_ne C 15 dX6_fault_8 (by decide) (fun z16 => ?_) (fun z16 => ?_)
  · replace hw := hw.2 z16
    refine r_aload_n C dX6_fault_15 rfl rfl ?_
    obtain ⟨a17, e17, hw⟩ := hw
    refine r_getA C K8 ob8 g2 (by decide) 12 (by decide) w_825 (fun _ z => z) e17 rfl dX6_fault_16 ?_
    refine r_iload_n C dX6_fault_19 rfl rfl ?_
    obtain ⟨g18, hw⟩ := hw
    obtain ⟨j19, f19, l19, k19, hw⟩ := hw
    obtain ⟨x20, e20, hw⟩ := hw
    refine a_I C g18 f19 l19 k19 e20 dX6_fault_20 ?_
    refine r_iconst (v := (3 : Int32)) C dX6_fault_21 (by decide) ?_
    refine r_icmp_ne C 29 dX6_fault_22 (by decide) (fun z21 => ?_) (fun z21 => ?_)
    · replace hw := hw.2 z21
      refine r_iconst (v := (0 : Int32)) C dX6_fault_29 (by decide) ?_
      exact (r_subk hw ⟨rfl, rfl, trivial⟩)
    · replace hw := hw.1 z21
      refine r_iconst (v := (2 : Int32)) C dX6_fault_25 (by decide) ?_
      refine r_goto C 30 dX6_fault_26 (by decide) ?_
      exact (r_subk hw ⟨rfl, rfl, trivial⟩)
  · replace hw := hw.1 z16
    refine r_iconst (v := (1 : Int32)) C dX6_fault_11 (by decide) ?_
    refine r_goto C 30 dX6_fault_12 (by decide) ?_
    exact (r_subk hw ⟨rfl, rfl, trivial⟩)
theorem v_X6_fault : MV yX6_fault cX6_fault 4 (some .boolean) 1 := ⟨w_1075, w_1073, w_1074, w_60, ⟨by decide +kernel, by decide +kernel, by decide +kernel⟩⟩

def wp_X6_takts (h : Hp) (this : Nat) (post : Int32 → Hp → Prop) : Prop :=
(hT h this = 8 ∧
 (∀ h2, h2 = sI h this 0 (0 : Int32) →
 (∃ x4 : Int32, hI h2 this 27 = x4 ∧
 post x4 h2)))
set_option maxHeartbeats 4000000 in
set_option maxRecDepth 100000 in
theorem m_X6_takts {E : Ev} {l : Launch} (hl : l.stackTraces = false) {h : Hp} {this : Nat} {post : Int32 → Hp → Prop} (hw : wp_X6_takts h this post) : MT E l yX6_takts cX6_takts 1 (some .int) 0 0 0 0 h [.ref this] (poI post) (pxN) := by
  refine MT.of (by decide) hl (Nat.le_of_ble_eq_true rfl) (fun p e s m args below meth c C => ?_)
  unfold wp_X6_takts at hw
  have C : CX E p l s m args meth c cX6_takts 1 "TaktLineModel" "takts" (some .int) [] := C
  show WS E p l e (rmOf 0 0 0 0) s m args below meth c 1 (vx_MQ below (qcP E (poI post)) (xcP E (pxN)) args s 0 0 (bsA E)) h 0 0 0 [(0, .ref this)] []
  refine r_aload_n C dX6_takts_0 rfl rfl ?_
  refine r_iconst (v := (0 : Int32)) C dX6_takts_1 (by decide) ?_
  obtain ⟨g1, hw⟩ := hw
  obtain ⟨h2, eh2⟩ : ∃ z, z = sI h this 0 (0 : Int32) := ⟨_, rfl⟩
  replace hw := hw h2 eh2
  refine p_I C K8 ob8 g1 (by decide) 0 (by decide) w_813 (fun _ z => z) rfl (by decide +kernel) (Nat.le_of_ble_eq_true rfl) rfl dX6_takts_2 eh2 ?_
  refine r_aload_n C dX6_takts_5 rfl rfl ?_
  have g3 : hT h2 this = 8 := by rw [eh2]; exact g1
  obtain ⟨x4, e4, hw⟩ := hw
  refine r_getI C K8 ob8 g3 (by decide) 27 (by decide) w_840 (fun _ z => z) e4 rfl dX6_takts_6 ?_
  exact r_iret C dX6_takts_9 (by decide) (by decide) ⟨_, rfl, hw⟩
theorem v_X6_takts : MV yX6_takts cX6_takts 1 (some .int) 0 := ⟨w_1079, w_1077, w_1078, w_60, ⟨by decide +kernel, by decide +kernel, by decide +kernel⟩⟩

def wp_X6_whereIs (h : Hp) (this : Nat) (p0 : Int32) (post : Int32 → Hp → Prop) : Prop :=
(hT h this = 8 ∧
 wp_X6_isCar h this p0 (fun x1 =>
 (∀ J14 : Int32 → Prop, (∀ (t14_0 : Int32), (wp_X6_goesWell h this t14_0 (fun x3 h3 =>
 (∀ J30 : Int32 → Prop, (∀ (t30_0 : Int32), (post t30_0 h3) → J30 t30_0) →
 ((x3 = 0 →
 J30 (0 : Int32)) ∧ (¬ (x3 = 0) →
 (hT h3 this = 8 ∧
 (∃ a6 : Nat, hR h3 this 12 = some a6 ∧
 (hT h3 a6 = 20 ∧
 (∃ j8 : Nat, p0 = nI j8 ∧ j8 < 2147483648 ∧ j8 < hL h3 a6 ∧
 (∃ x9 : Int32, hI h3 a6 j8 = x9 ∧
 J30 x9)))))))))) → J14 t14_0) →
 ((x1 = 0 →
 J14 (1 : Int32)) ∧ (¬ (x1 = 0) →
 J14 (0 : Int32))))))
set_option maxHeartbeats 4000000 in
set_option maxRecDepth 100000 in
theorem m_X6_whereIs {E : Ev} {l : Launch} (hl : l.stackTraces = false) {h : Hp} {this : Nat} {p0 : Int32} {post : Int32 → Hp → Prop} (hw : wp_X6_whereIs h this p0 post) : MT E l yX6_whereIs cX6_whereIs 2 (some .int) 2 43 0 0 h [.ref this, .int p0] (poI post) (pxN) := by
  refine MT.of (by decide) hl (Nat.le_of_ble_eq_true rfl) (fun p e s m args below meth c C => ?_)
  unfold wp_X6_whereIs at hw
  have C : CX E p l s m args meth c cX6_whereIs 2 "TaktLineModel" "whereIs" (some .int) [] := C
  show WS E p l e (rmOf 2 0 0 43) s m args below meth c 2 (vx_MQ below (qcP E (poI post)) (xcP E (pxN)) args s 0 0 (bsA E)) h 0 0 0 [(0, .ref this), (1, .int p0)] []
  refine r_aload_n C dX6_whereIs_0 rfl rfl ?_
  refine r_aload_n C dX6_whereIs_1 rfl rfl ?_
  refine r_iload_n C dX6_whereIs_2 rfl rfl ?_
  obtain ⟨g2, hw⟩ := hw
  refine r_callV (As := [.int p0]) (st := [.ref this]) C (m_X6_isCar hl hw) v_X6_isCar w_943 K8 g2 (by decide) ob8 rfl ⟨leb rfl, leb rfl⟩ ⟨leb rfl, leb rfl⟩ rfl (leb rfl) dX6_whereIs_3 (fun _ _ z => z.elim) (kpI (K := fun hK sK => WS E p l e (rmOf 2 0 0 43) s m args below meth c 2 (vx_MQ below (qcP E (poI post)) (xcP E (pxN)) args s 0 0 (bsA E)) hK (0 + 0) (0 + 0) (3 + 3) [(0, .ref this), (1, .int p0)] sK) (fun x1 hv => ?_))
  replace hw := hv
  clear hv
  replace hw := hw (fun (t14_0 : Int32) => WS E p l e (rmOf 2 0 0 43) s m args below meth c 2 (vx_MQ below (qcP E (poI post)) (xcP E (pxN)) args s 0 0 (bsA E)) h 0 0 14 [(0, .ref this), (1, .int p0)] [.int t14_0, .ref this]) (by
    intro t14_0 hv
    replace hw := hv
    clear hv
    refine r_callV (As := [.int t14_0]) (st := []) C (m_X6_goesWell hl hw) v_X6_goesWell w_919 K8 g2 (by decide) ob8 rfl ⟨leb rfl, leb rfl⟩ ⟨leb rfl, leb rfl⟩ rfl (leb rfl) dX6_whereIs_14 (fun _ _ z => z.elim) (kkI (K := fun hK sK => WS E p l e (rmOf 2 0 0 43) s m args below meth c 2 (vx_MQ below (qcP E (poI post)) (xcP E (pxN)) args s 0 0 (bsA E)) hK (0 + 0) (0 + 0) (14 + 3) [(0, .ref this), (1, .int p0)] sK) (fun x3 h3 hv => ?_))
    replace hw := hv
    clear hv
    replace hw := hw (fun (t30_0 : Int32) => WS E p l e (rmOf 2 0 0 43) s m args below meth c 2 (vx_MQ below (qcP E (poI post)) (xcP E (pxN)) args s 0 0 (bsA E)) h3 0 0 30 [] [.int t30_0]) (by
      intro t30_0 hv
      replace hw := hv
      clear hv
      exact r_iret C dX6_whereIs_30 (by decide) (by decide) ⟨_, rfl, hw⟩
      )
    refine r_if_eq C 29 dX6_whereIs_17 (by decide) (fun z4 => ?_) (fun z4 => ?_)
    · replace hw := hw.1 z4
      refine r_iconst (v := (0 : Int32)) C dX6_whereIs_29 (by decide) ?_
      exact (r_subk hw trivial)
    · replace hw := hw.2 z4
      refine r_aload_n C dX6_whereIs_20 rfl rfl ?_
      obtain ⟨g5, hw⟩ := hw
      obtain ⟨a6, e6, hw⟩ := hw
      refine r_getA C K8 ob8 g5 (by decide) 12 (by decide) w_825 (fun _ z => z) e6 rfl dX6_whereIs_21 ?_
      refine r_iload_n C dX6_whereIs_24 rfl rfl ?_
      obtain ⟨g7, hw⟩ := hw
      obtain ⟨j8, f8, l8, k8, hw⟩ := hw
      obtain ⟨x9, e9, hw⟩ := hw
      refine a_I C g7 f8 l8 k8 e9 dX6_whereIs_25 ?_
      refine r_goto C 30 dX6_whereIs_26 (by decide) ?_
      exact (r_subk hw trivial)
    )
  refine r_if_eq C 13 dX6_whereIs_6 (by decide) (fun z10 => ?_) (fun z10 => ?_)
  · replace hw := hw.1 z10
    refine r_iconst (v := (1 : Int32)) C dX6_whereIs_13 (by decide) ?_
    exact (r_subk hw ⟨rfl, rfl, trivial⟩)
  · replace hw := hw.2 z10
    refine r_iconst (v := (0 : Int32)) C dX6_whereIs_9 (by decide) ?_
    refine r_goto C 14 dX6_whereIs_10 (by decide) ?_
    exact (r_subk hw ⟨rfl, rfl, trivial⟩)
theorem v_X6_whereIs : MV yX6_whereIs cX6_whereIs 2 (some .int) 1 := ⟨w_1083, w_1081, w_1082, w_60, ⟨by decide +kernel, by decide +kernel, by decide +kernel⟩⟩

def wp_X6_stationOf (h : Hp) (this : Nat) (p0 : Int32) (post : Int32 → Hp → Prop) : Prop :=
(hT h this = 8 ∧
 wp_X6_isCar h this p0 (fun x1 =>
 (∀ J14 : Int32 → Prop, (∀ (t14_0 : Int32), (wp_X6_goesWell h this t14_0 (fun x3 h3 =>
 ((x3 = 0 →
 post (0 : Int32) h3) ∧ (¬ (x3 = 0) →
 (hT h3 this = 8 ∧
 (∃ a6 : Nat, hR h3 this 12 = some a6 ∧
 (hT h3 a6 = 20 ∧
 (∃ j8 : Nat, p0 = nI j8 ∧ j8 < 2147483648 ∧ j8 < hL h3 a6 ∧
 (∃ x9 : Int32, hI h3 a6 j8 = x9 ∧
 (∀ J52 : Int32 → Prop, (∀ (t52_0 : Int32), (post t52_0 h3) → J52 t52_0) →
 (∀ J42 : Prop, ((∃ a10 : Nat, hR h3 this 13 = some a10 ∧
 (hT h3 a10 = 20 ∧
 (∃ j12 : Nat, p0 = nI j12 ∧ j12 < 2147483648 ∧ j12 < hL h3 a10 ∧
 (∃ x13 : Int32, hI h3 a10 j12 = x13 ∧
 J52 x13)))) → J42) →
 ((x9 = (1 : Int32) →
 J42) ∧ (¬ (x9 = (1 : Int32)) →
 (∃ a15 : Nat, hR h3 this 12 = some a15 ∧
 (hT h3 a15 = 20 ∧
 (∃ j17 : Nat, p0 = nI j17 ∧ j17 < 2147483648 ∧ j17 < hL h3 a15 ∧
 (∃ x18 : Int32, hI h3 a15 j17 = x18 ∧
 ((x18 = (2 : Int32) →
 J42) ∧ (¬ (x18 = (2 : Int32)) →
 J52 (-1 : Int32)))))))))))))))))))) → J14 t14_0) →
 ((x1 = 0 →
 J14 (1 : Int32)) ∧ (¬ (x1 = 0) →
 J14 (0 : Int32))))))
set_option maxHeartbeats 4000000 in
set_option maxRecDepth 100000 in
theorem m_X6_stationOf {E : Ev} {l : Launch} (hl : l.stackTraces = false) {h : Hp} {this : Nat} {p0 : Int32} {post : Int32 → Hp → Prop} (hw : wp_X6_stationOf h this p0 post) : MT E l yX6_stationOf cX6_stationOf 2 (some .int) 2 43 0 0 h [.ref this, .int p0] (poI post) (pxN) := by
  refine MT.of (by decide) hl (Nat.le_of_ble_eq_true rfl) (fun p e s m args below meth c C => ?_)
  unfold wp_X6_stationOf at hw
  have C : CX E p l s m args meth c cX6_stationOf 2 "TaktLineModel" "stationOf" (some .int) [] := C
  show WS E p l e (rmOf 2 0 0 43) s m args below meth c 2 (vx_MQ below (qcP E (poI post)) (xcP E (pxN)) args s 0 0 (bsA E)) h 0 0 0 [(0, .ref this), (1, .int p0)] []
  refine r_aload_n C dX6_stationOf_0 rfl rfl ?_
  refine r_aload_n C dX6_stationOf_1 rfl rfl ?_
  refine r_iload_n C dX6_stationOf_2 rfl rfl ?_
  obtain ⟨g2, hw⟩ := hw
  refine r_callV (As := [.int p0]) (st := [.ref this]) C (m_X6_isCar hl hw) v_X6_isCar w_943 K8 g2 (by decide) ob8 rfl ⟨leb rfl, leb rfl⟩ ⟨leb rfl, leb rfl⟩ rfl (leb rfl) dX6_stationOf_3 (fun _ _ z => z.elim) (kpI (K := fun hK sK => WS E p l e (rmOf 2 0 0 43) s m args below meth c 2 (vx_MQ below (qcP E (poI post)) (xcP E (pxN)) args s 0 0 (bsA E)) hK (0 + 0) (0 + 0) (3 + 3) [(0, .ref this), (1, .int p0)] sK) (fun x1 hv => ?_))
  replace hw := hv
  clear hv
  replace hw := hw (fun (t14_0 : Int32) => WS E p l e (rmOf 2 0 0 43) s m args below meth c 2 (vx_MQ below (qcP E (poI post)) (xcP E (pxN)) args s 0 0 (bsA E)) h 0 0 14 [(0, .ref this), (1, .int p0)] [.int t14_0, .ref this]) (by
    intro t14_0 hv
    replace hw := hv
    clear hv
    refine r_callV (As := [.int t14_0]) (st := []) C (m_X6_goesWell hl hw) v_X6_goesWell w_919 K8 g2 (by decide) ob8 rfl ⟨leb rfl, leb rfl⟩ ⟨leb rfl, leb rfl⟩ rfl (leb rfl) dX6_stationOf_14 (fun _ _ z => z.elim) (kkI (K := fun hK sK => WS E p l e (rmOf 2 0 0 43) s m args below meth c 2 (vx_MQ below (qcP E (poI post)) (xcP E (pxN)) args s 0 0 (bsA E)) hK (0 + 0) (0 + 0) (14 + 3) [(0, .ref this), (1, .int p0)] sK) (fun x3 h3 hv => ?_))
    replace hw := hv
    clear hv
    refine r_if_ne C 22 dX6_stationOf_17 (by decide) (fun z4 => ?_) (fun z4 => ?_)
    · replace hw := hw.2 z4
      refine r_aload_n C dX6_stationOf_22 rfl rfl ?_
      obtain ⟨g5, hw⟩ := hw
      obtain ⟨a6, e6, hw⟩ := hw
      refine r_getA C K8 ob8 g5 (by decide) 12 (by decide) w_825 (fun _ z => z) e6 rfl dX6_stationOf_23 ?_
      refine r_iload_n C dX6_stationOf_26 rfl rfl ?_
      obtain ⟨g7, hw⟩ := hw
      obtain ⟨j8, f8, l8, k8, hw⟩ := hw
      obtain ⟨x9, e9, hw⟩ := hw
      refine a_I C g7 f8 l8 k8 e9 dX6_stationOf_27 ?_
      refine r_iconst (v := (1 : Int32)) C dX6_stationOf_28 (by decide) ?_
      replace hw := hw (fun (t52_0 : Int32) => WS E p l e (rmOf 2 0 0 43) s m args below meth c 2 (vx_MQ below (qcP E (poI post)) (xcP E (pxN)) args s 0 0 (bsA E)) h3 0 0 52 [] [.int t52_0]) (by
        intro t52_0 hv
        replace hw := hv
        clear hv
        exact r_iret C dX6_stationOf_52 (by decide) (by decide) ⟨_, rfl, hw⟩
        )
      replace hw := hw (WS E p l e (rmOf 2 0 0 43) s m args below meth c 2 (vx_MQ below (qcP E (poI post)) (xcP E (pxN)) args s 0 0 (bsA E)) h3 0 0 42 [(0, .ref this), (1, .int p0)] []) (by
        intro hv
        replace hw := hv
        clear hv
        refine r_aload_n C dX6_stationOf_42 rfl rfl ?_
        obtain ⟨a10, e10, hw⟩ := hw
        refine r_getA C K8 ob8 g5 (by decide) 13 (by decide) w_826 (fun _ z => z) e10 rfl dX6_stationOf_43 ?_
        refine r_iload_n C dX6_stationOf_46 rfl rfl ?_
        obtain ⟨g11, hw⟩ := hw
        obtain ⟨j12, f12, l12, k12, hw⟩ := hw
        obtain ⟨x13, e13, hw⟩ := hw
        refine a_I C g11 f12 l12 k12 e13 dX6_stationOf_47 ?_
        refine r_goto C 52 dX6_stationOf_48 (by decide) ?_
        exact (r_subk hw trivial)
        )
      refine r_icmp_eq C 42 dX6_stationOf_29 (by decide) (fun z14 => ?_) (fun z14 => ?_)
      · replace hw := hw.1 z14
        exact (r_subk hw ⟨rfl, rfl, trivial⟩)
      · replace hw := hw.2 z14
        refine r_aload_n C dX6_stationOf_32 rfl rfl ?_
        obtain ⟨a15, e15, hw⟩ := hw
        refine r_getA C K8 ob8 g5 (by decide) 12 (by decide) w_825 (fun _ z => z) e15 rfl dX6_stationOf_33 ?_
        refine r_iload_n C dX6_stationOf_36 rfl rfl ?_
        obtain ⟨g16, hw⟩ := hw
        obtain ⟨j17, f17, l17, k17, hw⟩ := hw
        obtain ⟨x18, e18, hw⟩ := hw
        refine a_I C g16 f17 l17 k17 e18 dX6_stationOf_37 ?_
        refine r_iconst (v := (2 : Int32)) C dX6_stationOf_38 (by decide) ?_
        refine r_icmp_ne C 51 dX6_stationOf_39 (by decide) (fun z19 => ?_) (fun z19 => ?_)
        · replace hw := hw.2 z19
          refine r_iconst (v := (-1 : Int32)) C dX6_stationOf_51 (by decide) ?_
          exact (r_subk hw trivial)
        · replace hw := hw.1 z19
          exact (r_subk hw ⟨rfl, rfl, trivial⟩)
    · replace hw := hw.1 z4
      refine r_iconst (v := (0 : Int32)) C dX6_stationOf_20 (by decide) ?_
      exact r_iret C dX6_stationOf_21 (by decide) (by decide) ⟨_, rfl, hw⟩
    )
  refine r_if_eq C 13 dX6_stationOf_6 (by decide) (fun z20 => ?_) (fun z20 => ?_)
  · replace hw := hw.1 z20
    refine r_iconst (v := (1 : Int32)) C dX6_stationOf_13 (by decide) ?_
    exact (r_subk hw ⟨rfl, rfl, trivial⟩)
  · replace hw := hw.2 z20
    refine r_iconst (v := (0 : Int32)) C dX6_stationOf_9 (by decide) ?_
    refine r_goto C 14 dX6_stationOf_10 (by decide) ?_
    exact (r_subk hw ⟨rfl, rfl, trivial⟩)
theorem v_X6_stationOf : MV yX6_stationOf cX6_stationOf 2 (some .int) 1 := ⟨w_1087, w_1085, w_1086, w_60, ⟨by decide +kernel, by decide +kernel, by decide +kernel⟩⟩

def wp_X6_carAt (h : Hp) (this : Nat) (p0 : Int32) (post : Int32 → Hp → Prop) : Prop :=
wp_X6_in h p0 (0 : Int32) (7 : Int32) (fun x1 =>
 (∀ J16 : Int32 → Prop, (∀ (t16_0 : Int32), (hT h this = 8 ∧
 wp_X6_goesWell h this t16_0 (fun x2 h2 =>
 (∀ J34 : Int32 → Prop, (∀ (t34_0 : Int32), (post t34_0 h2) → J34 t34_0) →
 ((x2 = 0 →
 J34 (0 : Int32)) ∧ (¬ (x2 = 0) →
 (hT h2 this = 8 ∧
 (∃ a6 : Nat, hR h2 this 19 = some a6 ∧
 (hT h2 a6 = 20 ∧
 (∃ j8 : Nat, p0 = nI j8 ∧ j8 < 2147483648 ∧ j8 < hL h2 a6 ∧
 (∃ x9 : Int32, hI h2 a6 j8 = x9 ∧
 J34 (x9 - (1 : Int32)))))))))))) → J16 t16_0) →
 ((x1 = 0 →
 J16 (1 : Int32)) ∧ (¬ (x1 = 0) →
 J16 (0 : Int32)))))
set_option maxHeartbeats 4000000 in
set_option maxRecDepth 100000 in
theorem m_X6_carAt {E : Ev} {l : Launch} (hl : l.stackTraces = false) {h : Hp} {this : Nat} {p0 : Int32} {post : Int32 → Hp → Prop} (hw : wp_X6_carAt h this p0 post) : MT E l yX6_carAt cX6_carAt 2 (some .int) 1 22 0 0 h [.ref this, .int p0] (poI post) (pxN) := by
  refine MT.of (by decide) hl (Nat.le_of_ble_eq_true rfl) (fun p e s m args below meth c C => ?_)
  unfold wp_X6_carAt at hw
  have C : CX E p l s m args meth c cX6_carAt 2 "TaktLineModel" "carAt" (some .int) [] := C
  show WS E p l e (rmOf 1 0 0 22) s m args below meth c 2 (vx_MQ below (qcP E (poI post)) (xcP E (pxN)) args s 0 0 (bsA E)) h 0 0 0 [(0, .ref this), (1, .int p0)] []
  refine r_aload_n C dX6_carAt_0 rfl rfl ?_
  refine r_iload_n C dX6_carAt_1 rfl rfl ?_
  refine r_iconst (v := (0 : Int32)) C dX6_carAt_2 (by decide) ?_
  refine r_bipush (v := (7 : Int32)) C dX6_carAt_3 (by decide) ?_
  refine r_callS (As := [.int p0, .int (0 : Int32), .int (7 : Int32)]) (st := [.ref this]) C (m_X6_in hl hw) v_X6_in w_913 rfl ⟨leb rfl, leb rfl⟩ ⟨leb rfl, leb rfl⟩ rfl (leb rfl) dX6_carAt_5 (fun _ _ z => z.elim) (kpI (K := fun hK sK => WS E p l e (rmOf 1 0 0 22) s m args below meth c 2 (vx_MQ below (qcP E (poI post)) (xcP E (pxN)) args s 0 0 (bsA E)) hK (0 + 0) (0 + 0) (5 + 3) [(0, .ref this), (1, .int p0)] sK) (fun x1 hv => ?_))
  replace hw := hv
  clear hv
  replace hw := hw (fun (t16_0 : Int32) => WS E p l e (rmOf 1 0 0 22) s m args below meth c 2 (vx_MQ below (qcP E (poI post)) (xcP E (pxN)) args s 0 0 (bsA E)) h 0 0 16 [(0, .ref this), (1, .int p0)] [.int t16_0, .ref this]) (by
    intro t16_0 hv
    replace hw := hv
    clear hv
    obtain ⟨g3, hw⟩ := hw
    refine r_callV (As := [.int t16_0]) (st := []) C (m_X6_goesWell hl hw) v_X6_goesWell w_919 K8 g3 (by decide) ob8 rfl ⟨leb rfl, leb rfl⟩ ⟨leb rfl, leb rfl⟩ rfl (leb rfl) dX6_carAt_16 (fun _ _ z => z.elim) (kkI (K := fun hK sK => WS E p l e (rmOf 1 0 0 22) s m args below meth c 2 (vx_MQ below (qcP E (poI post)) (xcP E (pxN)) args s 0 0 (bsA E)) hK (0 + 0) (0 + 0) (16 + 3) [(0, .ref this), (1, .int p0)] sK) (fun x2 h2 hv => ?_))
    replace hw := hv
    clear hv
    replace hw := hw (fun (t34_0 : Int32) => WS E p l e (rmOf 1 0 0 22) s m args below meth c 2 (vx_MQ below (qcP E (poI post)) (xcP E (pxN)) args s 0 0 (bsA E)) h2 0 0 34 [] [.int t34_0]) (by
      intro t34_0 hv
      replace hw := hv
      clear hv
      exact r_iret C dX6_carAt_34 (by decide) (by decide) ⟨_, rfl, hw⟩
      )
    refine r_if_eq C 33 dX6_carAt_19 (by decide) (fun z4 => ?_) (fun z4 => ?_)
    · replace hw := hw.1 z4
      refine r_iconst (v := (0 : Int32)) C dX6_carAt_33 (by decide) ?_
      exact (r_subk hw trivial)
    · replace hw := hw.2 z4
      refine r_aload_n C dX6_carAt_22 rfl rfl ?_
      obtain ⟨g5, hw⟩ := hw
      obtain ⟨a6, e6, hw⟩ := hw
      refine r_getA C K8 ob8 g5 (by decide) 19 (by decide) w_832 (fun _ z => z) e6 rfl dX6_carAt_23 ?_
      refine r_iload_n C dX6_carAt_26 rfl rfl ?_
      obtain ⟨g7, hw⟩ := hw
      obtain ⟨j8, f8, l8, k8, hw⟩ := hw
      obtain ⟨x9, e9, hw⟩ := hw
      refine a_I C g7 f8 l8 k8 e9 dX6_carAt_27 ?_
      refine r_iconst (v := (1 : Int32)) C dX6_carAt_28 (by decide) ?_
      refine r_isub C dX6_carAt_29 ?_
      refine r_goto C 34 dX6_carAt_30 (by decide) ?_
      exact (r_subk hw trivial)
    )
  refine r_if_eq C 15 dX6_carAt_8 (by decide) (fun z10 => ?_) (fun z10 => ?_)
  · replace hw := hw.1 z10
    refine r_iconst (v := (1 : Int32)) C dX6_carAt_15 (by decide) ?_
    exact (r_subk hw ⟨rfl, rfl, trivial⟩)
  · replace hw := hw.2 z10
    refine r_iconst (v := (0 : Int32)) C dX6_carAt_11 (by decide) ?_
    refine r_goto C 16 dX6_carAt_12 (by decide) ?_
    exact (r_subk hw ⟨rfl, rfl, trivial⟩)
theorem v_X6_carAt : MV yX6_carAt cX6_carAt 2 (some .int) 1 := ⟨w_1091, w_1089, w_1090, w_60, ⟨by decide +kernel, by decide +kernel, by decide +kernel⟩⟩

