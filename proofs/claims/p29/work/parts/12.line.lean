def wp_X5_init (dE : Nat) (mc ms : Nat) (h : Hp) (this : Nat) (post : Hp → Prop) : Prop :=
(1 ≤ mc ∧
 (10 ≤ ms ∧
 (∀ q1 : Nat, hT h q1 = 0 →
 (∀ h3, h3 = sN h q1 23 10 →
 (hT h3 this = 7 ∧
 (∀ h6, h6 = sR h3 this 0 (some q1) →
 (2 ≤ mc ∧
 (13 ≤ ms ∧
 (∀ q8 : Nat, hT h6 q8 = 0 →
 (∀ h9, h9 = sN h6 q8 1 0 →
 wp_Jx4a65c_init_da8c8 dE h9 q8 (fun h11 =>
 (hT h11 this = 7 ∧
 (∀ h13, h13 = sR h11 this 1 (some q8) →
 (3 ≤ mc ∧
 (16 ≤ ms ∧
 (∀ q15 : Nat, hT h13 q15 = 0 →
 (∀ h16, h16 = sN h13 q15 1 0 →
 wp_Jx4a65c_init_da8c8 dE h16 q15 (fun h18 =>
 (hT h18 this = 7 ∧
 (∀ h20, h20 = sR h18 this 2 (some q15) →
 (4 ≤ mc ∧
 (19 ≤ ms ∧
 (∀ q22 : Nat, hT h20 q22 = 0 →
 (∀ h23, h23 = sN h20 q22 1 0 →
 wp_Jx4a65c_init_da8c8 dE h23 q22 (fun h25 =>
 (hT h25 this = 7 ∧
 (∀ h27, h27 = sR h25 this 3 (some q22) →
 (5 ≤ mc ∧
 (22 ≤ ms ∧
 (∀ q29 : Nat, hT h27 q29 = 0 →
 (∀ h30, h30 = sN h27 q29 1 0 →
 wp_Jx4a65c_init_da8c8 dE h30 q29 (fun h32 =>
 (hT h32 this = 7 ∧
 (∀ h34, h34 = sR h32 this 4 (some q29) →
 (6 ≤ mc ∧
 (25 ≤ ms ∧
 (∀ q36 : Nat, hT h34 q36 = 0 →
 (∀ h37, h37 = sN h34 q36 1 0 →
 wp_Jx4a65c_init_da8c8 dE h37 q36 (fun h39 =>
 (hT h39 this = 7 ∧
 (∀ h41, h41 = sR h39 this 5 (some q36) →
 (7 ≤ mc ∧
 (33 ≤ ms ∧
 (∀ q42 : Nat, hT h41 q42 = 0 →
 (∀ h44, h44 = sN h41 q42 25 8 →
 (∀ h48, h48 = sR h44 this 6 (some q42) →
 (∀ J79 : Int32 → Hp → Nat → Nat → Prop, (∀ (v79_1 : Int32) (h79_ : Hp) (c79 : Nat) (s79 : Nat), (((10 : Int32) ≤ v79_1 →
 post h79_) ∧ (¬ ((10 : Int32) ≤ v79_1) →
 (hT h79_ this = 7 ∧
 (∃ a51 : Nat, hR h79_ this 0 = some a51 ∧
 (c79 + 1 ≤ mc ∧
 (s79 + 4 ≤ ms ∧
 (∀ q53 : Nat, hT h79_ q53 = 0 →
 (∀ h54, h54 = sN h79_ q53 4 0 →
 wp_X2_init h54 q53 (fun h56 =>
 (hT h56 a51 = 23 ∧
 (∃ j58 : Nat, v79_1 = nI j58 ∧ j58 < 2147483648 ∧ j58 < hL h56 a51 ∧
 (hT h56 q53 = 4 ∧
 (∀ h60, h60 = sR h56 a51 j58 (some q53) →
 J79 (v79_1 + (1 : Int32)) h60 (c79 + 1 + 0) (s79 + 4 + 0)))))))))))))) → J79 v79_1 h79_ c79 s79) →
 J79 (0 : Int32) h48 7 33)))))))))))))))))))))))))))))))))))))))))))))))
set_option maxHeartbeats 4000000 in
set_option maxRecDepth 100000 in
theorem m_X5_init {E : Ev} {l : Launch} (hl : l.stackTraces = false) {mc ms : Nat} {h : Hp} {this : Nat} {post : Hp → Prop} (hw : wp_X5_init (eE E) mc ms h this post) : MT E l yX5_init cX5_init 2 none 4 100 mc ms h [.ref this] (poV post) (pxN) := by
  refine MT.of (by decide) hl (Nat.le_of_ble_eq_true rfl) (fun p e s m args below meth c C => ?_)
  unfold wp_X5_init at hw
  have C : CX E p l s m args meth c cX5_init 2 "TaktLine" "<init>" none [] := C
  show WS E p l e (rmOf 4 mc ms 100) s m args below meth c 2 (vx_MQ below (qcP E (poV post)) (xcP E (pxN)) args s mc ms (bsA E)) h 0 0 0 [(0, .ref this)] []
  refine r_aload_n C dX5_init_0 rfl rfl ?_
  refine r_objInit C w_63 w_64 w_65 (leb rfl) (leb rfl) dX5_init_1 ?_
  refine r_aload_n C dX5_init_4 rfl rfl ?_
  refine r_bipush (v := (10 : Int32)) C dX5_init_5 (by decide) ?_
  obtain ⟨b2, d2, hw⟩ := hw
  refine r_anew (N := 10) (t := 23) (t0 := 3) C w_66 (by decide +kernel) rfl ar23 (by decide) (by decide) (by decide) (by decide) b2 d2 dX5_init_7 (fun q1 z1 => ?_)
  replace hw := hw q1 z1
  obtain ⟨h3, eh3⟩ : ∃ z, z = sN h q1 23 10 := ⟨_, rfl⟩
  replace hw := hw h3 eh3
  rw [← eh3]
  have g4 : hT h3 q1 = 23 := by rw [eh3]; exact tag_new
  obtain ⟨g5, hw⟩ := hw
  obtain ⟨h6, eh6⟩ : ∃ z, z = sR h3 this 0 (some q1) := ⟨_, rfl⟩
  replace hw := hw h6 eh6
  refine p_FR C K7 ob7 g5 (by decide) 0 (by decide) w_118 (fun _ z => z) rfl rfl rfl (some q1) (fty := .array (.object "TaktLine$Kind")) (by decide +kernel) (Or.inr ⟨_, rfl⟩) (Nat.le_of_ble_eq_true rfl) rfl dX5_init_10 eh6 ?_
  refine r_aload_n C dX5_init_13 rfl rfl ?_
  obtain ⟨b7, d7, hw⟩ := hw
  refine r_new (t := 1) C K1 w_68 w_69 w_40 (by decide +kernel) ob1 (by decide) b7 d7 dX5_init_14 (fun q8 z8 => ?_)
  replace hw := hw q8 z8
  obtain ⟨h9, eh9⟩ : ∃ z, z = sN h6 q8 1 0 := ⟨_, rfl⟩
  replace hw := hw h9 eh9
  rw [← eh9]
  have g10 : hT h9 q8 = 1 := by rw [eh9]; exact tag_new
  refine r_dup C dX5_init_17 rfl ?_
  refine r_callI (As := []) (st := [.ref q8, .ref this]) C (m_Jx4a65c_init_da8c8 hl hw) v_Jx4a65c_init_da8c8 w_70 rfl ⟨leb rfl, leb rfl⟩ ⟨b7, d7⟩ rfl (leb rfl) dX5_init_18 (fun _ _ z => z.elim) (kkV (K := fun hK sK => WS E p l e (rmOf 4 mc ms 100) s m args below meth c 2 (vx_MQ below (qcP E (poV post)) (xcP E (pxN)) args s mc ms (bsA E)) hK (2) (13) (18 + 3) [(0, .ref this)] sK) (fun h11 hv => ?_))
  replace hw := hv
  clear hv
  obtain ⟨g12, hw⟩ := hw
  obtain ⟨h13, eh13⟩ : ∃ z, z = sR h11 this 1 (some q8) := ⟨_, rfl⟩
  replace hw := hw h13 eh13
  refine p_FR C K7 ob7 g12 (by decide) 1 (by decide) w_119 (fun _ z => z) rfl rfl rfl (some q8) (fty := .object "java/util/ArrayList") (by decide +kernel) (Or.inl ⟨_, rfl⟩) (Nat.le_of_ble_eq_true rfl) rfl dX5_init_21 eh13 ?_
  refine r_aload_n C dX5_init_24 rfl rfl ?_
  obtain ⟨b14, d14, hw⟩ := hw
  refine r_new (t := 1) C K1 w_68 w_69 w_40 (by decide +kernel) ob1 (by decide) b14 d14 dX5_init_25 (fun q15 z15 => ?_)
  replace hw := hw q15 z15
  obtain ⟨h16, eh16⟩ : ∃ z, z = sN h13 q15 1 0 := ⟨_, rfl⟩
  replace hw := hw h16 eh16
  rw [← eh16]
  have g17 : hT h16 q15 = 1 := by rw [eh16]; exact tag_new
  refine r_dup C dX5_init_28 rfl ?_
  refine r_callI (As := []) (st := [.ref q15, .ref this]) C (m_Jx4a65c_init_da8c8 hl hw) v_Jx4a65c_init_da8c8 w_70 rfl ⟨leb rfl, leb rfl⟩ ⟨b14, d14⟩ rfl (leb rfl) dX5_init_29 (fun _ _ z => z.elim) (kkV (K := fun hK sK => WS E p l e (rmOf 4 mc ms 100) s m args below meth c 2 (vx_MQ below (qcP E (poV post)) (xcP E (pxN)) args s mc ms (bsA E)) hK (3) (16) (29 + 3) [(0, .ref this)] sK) (fun h18 hv => ?_))
  replace hw := hv
  clear hv
  obtain ⟨g19, hw⟩ := hw
  obtain ⟨h20, eh20⟩ : ∃ z, z = sR h18 this 2 (some q15) := ⟨_, rfl⟩
  replace hw := hw h20 eh20
  refine p_FR C K7 ob7 g19 (by decide) 2 (by decide) w_120 (fun _ z => z) rfl rfl rfl (some q15) (fty := .object "java/util/ArrayList") (by decide +kernel) (Or.inl ⟨_, rfl⟩) (Nat.le_of_ble_eq_true rfl) rfl dX5_init_32 eh20 ?_
  refine r_aload_n C dX5_init_35 rfl rfl ?_
  obtain ⟨b21, d21, hw⟩ := hw
  refine r_new (t := 1) C K1 w_68 w_69 w_40 (by decide +kernel) ob1 (by decide) b21 d21 dX5_init_36 (fun q22 z22 => ?_)
  replace hw := hw q22 z22
  obtain ⟨h23, eh23⟩ : ∃ z, z = sN h20 q22 1 0 := ⟨_, rfl⟩
  replace hw := hw h23 eh23
  rw [← eh23]
  have g24 : hT h23 q22 = 1 := by rw [eh23]; exact tag_new
  refine r_dup C dX5_init_39 rfl ?_
  refine r_callI (As := []) (st := [.ref q22, .ref this]) C (m_Jx4a65c_init_da8c8 hl hw) v_Jx4a65c_init_da8c8 w_70 rfl ⟨leb rfl, leb rfl⟩ ⟨b21, d21⟩ rfl (leb rfl) dX5_init_40 (fun _ _ z => z.elim) (kkV (K := fun hK sK => WS E p l e (rmOf 4 mc ms 100) s m args below meth c 2 (vx_MQ below (qcP E (poV post)) (xcP E (pxN)) args s mc ms (bsA E)) hK (4) (19) (40 + 3) [(0, .ref this)] sK) (fun h25 hv => ?_))
  replace hw := hv
  clear hv
  obtain ⟨g26, hw⟩ := hw
  obtain ⟨h27, eh27⟩ : ∃ z, z = sR h25 this 3 (some q22) := ⟨_, rfl⟩
  replace hw := hw h27 eh27
  refine p_FR C K7 ob7 g26 (by decide) 3 (by decide) w_121 (fun _ z => z) rfl rfl rfl (some q22) (fty := .object "java/util/ArrayList") (by decide +kernel) (Or.inl ⟨_, rfl⟩) (Nat.le_of_ble_eq_true rfl) rfl dX5_init_43 eh27 ?_
  refine r_aload_n C dX5_init_46 rfl rfl ?_
  obtain ⟨b28, d28, hw⟩ := hw
  refine r_new (t := 1) C K1 w_68 w_69 w_40 (by decide +kernel) ob1 (by decide) b28 d28 dX5_init_47 (fun q29 z29 => ?_)
  replace hw := hw q29 z29
  obtain ⟨h30, eh30⟩ : ∃ z, z = sN h27 q29 1 0 := ⟨_, rfl⟩
  replace hw := hw h30 eh30
  rw [← eh30]
  have g31 : hT h30 q29 = 1 := by rw [eh30]; exact tag_new
  refine r_dup C dX5_init_50 rfl ?_
  refine r_callI (As := []) (st := [.ref q29, .ref this]) C (m_Jx4a65c_init_da8c8 hl hw) v_Jx4a65c_init_da8c8 w_70 rfl ⟨leb rfl, leb rfl⟩ ⟨b28, d28⟩ rfl (leb rfl) dX5_init_51 (fun _ _ z => z.elim) (kkV (K := fun hK sK => WS E p l e (rmOf 4 mc ms 100) s m args below meth c 2 (vx_MQ below (qcP E (poV post)) (xcP E (pxN)) args s mc ms (bsA E)) hK (5) (22) (51 + 3) [(0, .ref this)] sK) (fun h32 hv => ?_))
  replace hw := hv
  clear hv
  obtain ⟨g33, hw⟩ := hw
  obtain ⟨h34, eh34⟩ : ∃ z, z = sR h32 this 4 (some q29) := ⟨_, rfl⟩
  replace hw := hw h34 eh34
  refine p_FR C K7 ob7 g33 (by decide) 4 (by decide) w_122 (fun _ z => z) rfl rfl rfl (some q29) (fty := .object "java/util/ArrayList") (by decide +kernel) (Or.inl ⟨_, rfl⟩) (Nat.le_of_ble_eq_true rfl) rfl dX5_init_54 eh34 ?_
  refine r_aload_n C dX5_init_57 rfl rfl ?_
  obtain ⟨b35, d35, hw⟩ := hw
  refine r_new (t := 1) C K1 w_68 w_69 w_40 (by decide +kernel) ob1 (by decide) b35 d35 dX5_init_58 (fun q36 z36 => ?_)
  replace hw := hw q36 z36
  obtain ⟨h37, eh37⟩ : ∃ z, z = sN h34 q36 1 0 := ⟨_, rfl⟩
  replace hw := hw h37 eh37
  rw [← eh37]
  have g38 : hT h37 q36 = 1 := by rw [eh37]; exact tag_new
  refine r_dup C dX5_init_61 rfl ?_
  refine r_callI (As := []) (st := [.ref q36, .ref this]) C (m_Jx4a65c_init_da8c8 hl hw) v_Jx4a65c_init_da8c8 w_70 rfl ⟨leb rfl, leb rfl⟩ ⟨b35, d35⟩ rfl (leb rfl) dX5_init_62 (fun _ _ z => z.elim) (kkV (K := fun hK sK => WS E p l e (rmOf 4 mc ms 100) s m args below meth c 2 (vx_MQ below (qcP E (poV post)) (xcP E (pxN)) args s mc ms (bsA E)) hK (6) (25) (62 + 3) [(0, .ref this)] sK) (fun h39 hv => ?_))
  replace hw := hv
  clear hv
  obtain ⟨g40, hw⟩ := hw
  obtain ⟨h41, eh41⟩ : ∃ z, z = sR h39 this 5 (some q36) := ⟨_, rfl⟩
  replace hw := hw h41 eh41
  refine p_FR C K7 ob7 g40 (by decide) 5 (by decide) w_123 (fun _ z => z) rfl rfl rfl (some q36) (fty := .object "java/util/ArrayList") (by decide +kernel) (Or.inl ⟨_, rfl⟩) (Nat.le_of_ble_eq_true rfl) rfl dX5_init_65 eh41 ?_
  refine r_aload_n C dX5_init_68 rfl rfl ?_
  refine r_bipush (v := (8 : Int32)) C dX5_init_69 (by decide) ?_
  obtain ⟨b43, d43, hw⟩ := hw
  refine r_anew (N := 8) (t := 25) (t0 := 5) C w_94 (by decide +kernel) rfl ar25 (by decide) (by decide) (by decide) (by decide) b43 d43 dX5_init_71 (fun q42 z42 => ?_)
  replace hw := hw q42 z42
  obtain ⟨h44, eh44⟩ : ∃ z, z = sN h41 q42 25 8 := ⟨_, rfl⟩
  replace hw := hw h44 eh44
  rw [← eh44]
  have g45 : hT h44 q42 = 25 := by rw [eh44]; exact tag_new
  have g46 : hT h41 this = 7 := by rw [eh41]; exact g40
  have g47 : hT h44 this = 7 := by rw [eh44]; exact tag_sN z42 g46 (by decide)
  obtain ⟨h48, eh48⟩ : ∃ z, z = sR h44 this 6 (some q42) := ⟨_, rfl⟩
  replace hw := hw h48 eh48
  refine p_FR C K7 ob7 g47 (by decide) 6 (by decide) w_124 (fun _ z => z) rfl rfl rfl (some q42) (fty := .array (.object "TaktLine$Car")) (by decide +kernel) (Or.inr ⟨_, rfl⟩) (Nat.le_of_ble_eq_true rfl) rfl dX5_init_74 eh48 ?_
  refine r_iconst (v := (0 : Int32)) C dX5_init_77 (by decide) ?_
  refine r_istore_n C dX5_init_78 rfl (by decide) [(0, .ref this), (1, .int (0 : Int32))] ⟨rfl, rfl, trivial⟩ ?_
  replace hw := hw (fun (v79_1 : Int32) (h79_ : Hp) (c79 : Nat) (s79 : Nat) => c79 ≤ mc → s79 ≤ ms → WS E p l e (rmOf 4 mc ms 100) s m args below meth c 2 (vx_MQ below (qcP E (poV post)) (xcP E (pxN)) args s mc ms (bsA E)) h79_ c79 s79 79 [(0, .ref this), (1, .int v79_1)] []) (by
    intro v79_1 h79_ c79 s79 hv bc79 bs79
    replace hw := hv
    clear hv
    refine r_iload_n C dX5_init_79 rfl rfl ?_
    refine r_bipush (v := (10 : Int32)) C dX5_init_80 (by decide) ?_
    refine r_icmp_ge C 104 dX5_init_82 (by decide) (fun z49 => ?_) (fun z49 => ?_)
    · replace hw := hw.1 z49
      exact r_vret C dX5_init_104 bc79 bs79 ⟨rfl, hw⟩
    · replace hw := hw.2 z49
      refine r_aload_n C dX5_init_85 rfl rfl ?_
      obtain ⟨g50, hw⟩ := hw
      obtain ⟨a51, e51, hw⟩ := hw
      refine r_getA C K7 ob7 g50 (by decide) 0 (by decide) w_118 (fun _ z => z) e51 rfl dX5_init_86 ?_
      refine r_iload_n C dX5_init_89 rfl rfl ?_
      obtain ⟨b52, d52, hw⟩ := hw
      refine r_new (t := 4) C K4 w_66 w_96 w_41 (by decide +kernel) ob4 (by decide) b52 d52 dX5_init_90 (fun q53 z53 => ?_)
      replace hw := hw q53 z53
      obtain ⟨h54, eh54⟩ : ∃ z, z = sN h79_ q53 4 0 := ⟨_, rfl⟩
      replace hw := hw h54 eh54
      rw [← eh54]
      have g55 : hT h54 q53 = 4 := by rw [eh54]; exact tag_new
      refine r_dup C dX5_init_93 rfl ?_
      refine r_callIK (As := []) (st := [.ref q53, .int v79_1, .ref a51]) C (m_X2_init hl hw) v_X2_init rfl rfl ⟨leb rfl, leb rfl⟩ ⟨b52, d52⟩ rfl (leb rfl) dX5_init_94 (fun _ _ z => z.elim) (kkV (K := fun hK sK => WS E p l e (rmOf 4 mc ms 100) s m args below meth c 2 (vx_MQ below (qcP E (poV post)) (xcP E (pxN)) args s mc ms (bsA E)) hK (c79 + 1 + 0) (s79 + 4 + 0) (94 + 3) [(0, .ref this), (1, .int v79_1)] sK) (fun h56 hv => ?_))
      replace hw := hv
      clear hv
      obtain ⟨g57, hw⟩ := hw
      obtain ⟨j58, f58, l58, k58, hw⟩ := hw
      obtain ⟨g59, hw⟩ := hw
      obtain ⟨h60, eh60⟩ : ∃ z, z = sR h56 a51 j58 (some q53) := ⟨_, rfl⟩
      replace hw := hw h60 eh60
      refine s_A C K4 (fun f => ar23) g57 (by decide) (t0 := 3) rfl f58 l58 k58 g59 ob4 (by decide) dX5_init_97 eh60 ?_
      refine r_iinc C (v79_1 + (1 : Int32)) dX5_init_98 rfl rfl (by decide) [(0, .ref this), (1, .int (v79_1 + (1 : Int32)))] ⟨rfl, rfl, trivial⟩ ?_
      refine r_goto C 79 dX5_init_101 (by decide) ?_
      exact (r_subk (hw b52 d52) ⟨rfl, rfl, trivial⟩)
    )
  exact (r_subk (hw b43 d43) ⟨rfl, rfl, trivial⟩)
theorem v_X5_init : MI yX5_init cX5_init 2 0 := ⟨w_62, w_61, w_37, rfl, ⟨by decide +kernel, by decide +kernel, by decide +kernel⟩⟩

def wp_X5_checkKind (h : Hp) (p0 : Int32) (post : Prop) (px : String → Prop) : Prop :=
(∀ J10 : Prop, ((px XB) → J10) →
 ((p0 < 0 →
 J10) ∧ (¬ (p0 < 0) →
 ((p0 < (10 : Int32) →
 post) ∧ (¬ (p0 < (10 : Int32)) →
 J10)))))
set_option maxHeartbeats 4000000 in
set_option maxRecDepth 100000 in
theorem m_X5_checkKind {E : Ev} {l : Launch} (hl : l.stackTraces = false) {h : Hp} {p0 : Int32} {post : Prop} {px : String → Prop} (hw : wp_X5_checkKind h p0 post px) : MT E l yX5_checkKind cX5_checkKind 1 none 6 102 1 6 h [.int p0] (puV h post) (pxP h px) := by
  refine MT.of (by decide) hl (Nat.le_of_ble_eq_true rfl) (fun p e s m args below meth c C => ?_)
  unfold wp_X5_checkKind at hw
  have C : CX E p l s m args meth c cX5_checkKind 1 "TaktLine" "checkKind" none [] := C
  show WS E p l e (rmOf 6 1 6 102) s m args below meth c 1 (vx_MQ below (qcP E (puV h post)) (xcP E (pxP h px)) args s 1 6 (bsA E)) h 0 0 0 [(0, .int p0)] []
  refine r_iload_n C dX5_checkKind_0 rfl rfl ?_
  replace hw := hw (WS E p l e (rmOf 6 1 6 102) s m args below meth c 1 (vx_MQ below (qcP E (puV h post)) (xcP E (pxP h px)) args s 1 6 (bsA E)) h 0 0 10 [] []) (by
    intro hv
    replace hw := hv
    clear hv
    exact r_throwS C thrB (text := "there is no such kind") (by decide +kernel) dX5_checkKind_10 dX5_checkKind_13 dX5_checkKind_14 dX5_checkKind_16 dX5_checkKind_19 (leb rfl) (leb rfl) (by decide) (by decide) ⟨hw, rfl⟩
    )
  refine r_if_lt C 10 dX5_checkKind_1 (by decide) (fun z1 => ?_) (fun z1 => ?_)
  · replace hw := hw.1 z1
    exact (r_subk hw trivial)
  · replace hw := hw.2 z1
    refine r_iload_n C dX5_checkKind_4 rfl rfl ?_
    refine r_bipush (v := (10 : Int32)) C dX5_checkKind_5 (by decide) ?_
    refine r_icmp_lt C 20 dX5_checkKind_7 (by decide) (fun z2 => ?_) (fun z2 => ?_)
    · replace hw := hw.1 z2
      exact r_vret C dX5_checkKind_20 (by decide) (by decide) ⟨rfl, hw, rfl⟩
    · replace hw := hw.2 z2
      exact (r_subk hw trivial)
theorem v_X5_checkKind : MS yX5_checkKind cX5_checkKind 1 none 1 := ⟨w_553, w_552, w_37, ⟨by decide +kernel, by decide +kernel, by decide +kernel⟩⟩

def wp_X5_existingKind (h : Hp) (this : Nat) (p0 : Int32) (post : Nat → Prop) (px : String → Prop) : Prop :=
wp_X5_checkKind h p0 ((hT h this = 7 ∧
 (∃ a3 : Nat, hR h this 0 = some a3 ∧
 (hT h a3 = 23 ∧
 (∃ j5 : Nat, p0 = nI j5 ∧ j5 < 2147483648 ∧ j5 < hL h a3 ∧
 (∃ a6 : Nat, hR h a3 j5 = some a6 ∧
 post a6)))))) px
set_option maxHeartbeats 4000000 in
set_option maxRecDepth 100000 in
theorem m_X5_existingKind {E : Ev} {l : Launch} (hl : l.stackTraces = false) {h : Hp} {this : Nat} {p0 : Int32} {post : Nat → Prop} {px : String → Prop} (hw : wp_X5_existingKind h this p0 post px) : MT E l yX5_existingKind cX5_existingKind 2 (some (.object "TaktLine$Kind")) 7 122 1 6 h [.ref this, .int p0] (puA h post) (pxP h px) := by
  refine MT.of (by decide) hl (Nat.le_of_ble_eq_true rfl) (fun p e s m args below meth c C => ?_)
  unfold wp_X5_existingKind at hw
  have C : CX E p l s m args meth c cX5_existingKind 2 "TaktLine" "existingKind" (some (.object "TaktLine$Kind")) [] := C
  show WS E p l e (rmOf 7 1 6 122) s m args below meth c 2 (vx_MQ below (qcP E (puA h post)) (xcP E (pxP h px)) args s 1 6 (bsA E)) h 0 0 0 [(0, .ref this), (1, .int p0)] []
  refine r_iload_n C dX5_existingKind_0 rfl rfl ?_
  refine r_callS (As := [.int p0]) (st := []) C (m_X5_checkKind hl hw) v_X5_checkKind w_551 rfl ⟨leb rfl, leb rfl⟩ ⟨leb rfl, leb rfl⟩ rfl (leb rfl) dX5_existingKind_1 (fun X h9 hx => by obtain ⟨hx, rfl⟩ := hx; exact r_out C ⟨hx, rfl⟩ (by decide) (by decide)) (kpV (K := fun hK sK => WS E p l e (rmOf 7 1 6 122) s m args below meth c 2 (vx_MQ below (qcP E (puA h post)) (xcP E (pxP h px)) args s 1 6 (bsA E)) hK (0 + 1) (0 + 6) (1 + 3) [(0, .ref this), (1, .int p0)] sK) (fun hv => ?_))
  replace hw := hv
  clear hv
  refine r_aload_n C dX5_existingKind_4 rfl rfl ?_
  obtain ⟨g2, hw⟩ := hw
  obtain ⟨a3, e3, hw⟩ := hw
  refine r_getA C K7 ob7 g2 (by decide) 0 (by decide) w_118 (fun _ z => z) e3 rfl dX5_existingKind_5 ?_
  refine r_iload_n C dX5_existingKind_8 rfl rfl ?_
  obtain ⟨g4, hw⟩ := hw
  obtain ⟨j5, f5, l5, k5, hw⟩ := hw
  obtain ⟨a6, e6, hw⟩ := hw
  refine a_A C ar23 g4 (by decide) (t0 := 3) rfl f5 l5 k5 e6 dX5_existingKind_9 ?_
  exact r_aret (r := some a6) C (Or.inl ⟨_, rfl⟩) dX5_existingKind_10 (by decide) (by decide) ⟨_, rfl, hw, rfl⟩
theorem v_X5_existingKind : MV yX5_existingKind cX5_existingKind 2 (some (.object "TaktLine$Kind")) 1 := ⟨w_550, w_549, w_31, w_37, ⟨by decide +kernel, by decide +kernel, by decide +kernel⟩⟩

def wp_X5_isFittingStation (h : Hp) (p0 : Int32) (post : Int32 → Prop) : Prop :=
(∀ J14 : Int32 → Prop, (∀ (t14_0 : Int32), (b01 t14_0 ∧
 post t14_0) → J14 t14_0) →
 (∀ J13 : Prop, ((J14 (0 : Int32)) → J13) →
 ((p0 < 0 →
 J13) ∧ (¬ (p0 < 0) →
 (((5 : Int32) ≤ p0 →
 J13) ∧ (¬ ((5 : Int32) ≤ p0) →
 J14 (1 : Int32)))))))
set_option maxHeartbeats 4000000 in
set_option maxRecDepth 100000 in
theorem m_X5_isFittingStation {E : Ev} {l : Launch} (hl : l.stackTraces = false) {h : Hp} {p0 : Int32} {post : Int32 → Prop} (hw : wp_X5_isFittingStation h p0 post) : MT E l yX5_isFittingStation cX5_isFittingStation 1 (some .boolean) 0 0 0 0 h [.int p0] (puI h post) (pxN) := by
  refine MT.of (by decide) hl (Nat.le_of_ble_eq_true rfl) (fun p e s m args below meth c C => ?_)
  unfold wp_X5_isFittingStation at hw
  have C : CX E p l s m args meth c cX5_isFittingStation 1 "TaktLine" "isFittingStation" (some .boolean) [] := C
  show WS E p l e (rmOf 0 0 0 0) s m args below meth c 1 (vx_MQ below (qcP E (puI h post)) (xcP E (pxN)) args s 0 0 (bsA E)) h 0 0 0 [(0, .int p0)] []
  refine r_iload_n C dX5_isFittingStation_0 rfl rfl ?_
  replace hw := hw (fun (t14_0 : Int32) => WS E p l e (rmOf 0 0 0 0) s m args below meth c 1 (vx_MQ below (qcP E (puI h post)) (xcP E (pxN)) args s 0 0 (bsA E)) h 0 0 14 [] [.int t14_0]) (by
    intro t14_0 hv
    replace hw := hv
    clear hv
    obtain ⟨y1, hw⟩ := hw
    exact r_zret C y1 dX5_isFittingStation_14 (by decide) (by decide) ⟨_, rfl, hw, rfl⟩
    )
  replace hw := hw (WS E p l e (rmOf 0 0 0 0) s m args below meth c 1 (vx_MQ below (qcP E (puI h post)) (xcP E (pxN)) args s 0 0 (bsA E)) h 0 0 13 [] []) (by
    intro hv
    replace hw := hv
    clear hv
    refine r_iconst (v := (0 : Int32)) C dX5_isFittingStation_13 (by decide) ?_
    exact (r_subk hw trivial)
    )
  refine r_if_lt C 13 dX5_isFittingStation_1 (by decide) (fun z2 => ?_) (fun z2 => ?_)
  · replace hw := hw.1 z2
    exact (r_subk hw trivial)
  · replace hw := hw.2 z2
    refine r_iload_n C dX5_isFittingStation_4 rfl rfl ?_
    refine r_iconst (v := (5 : Int32)) C dX5_isFittingStation_5 (by decide) ?_
    refine r_icmp_ge C 13 dX5_isFittingStation_6 (by decide) (fun z3 => ?_) (fun z3 => ?_)
    · replace hw := hw.1 z3
      exact (r_subk hw trivial)
    · replace hw := hw.2 z3
      refine r_iconst (v := (1 : Int32)) C dX5_isFittingStation_9 (by decide) ?_
      refine r_goto C 14 dX5_isFittingStation_10 (by decide) ?_
      exact (r_subk hw trivial)
theorem v_X5_isFittingStation : MS yX5_isFittingStation cX5_isFittingStation 1 (some .boolean) 1 := ⟨w_402, w_401, w_37, ⟨by decide +kernel, by decide +kernel, by decide +kernel⟩⟩

def wp_X5_isOptionSet (h : Hp) (p0 : Int32) (post : Int32 → Prop) : Prop :=
(∀ J16 : Int32 → Prop, (∀ (t16_0 : Int32), (b01 t16_0 ∧
 post t16_0) → J16 t16_0) →
 (∀ J15 : Prop, ((J16 (0 : Int32)) → J15) →
 ((p0 < 0 →
 J15) ∧ (¬ (p0 < 0) →
 (((255 : Int32) < p0 →
 J15) ∧ (¬ ((255 : Int32) < p0) →
 J16 (1 : Int32)))))))
set_option maxHeartbeats 4000000 in
set_option maxRecDepth 100000 in
theorem m_X5_isOptionSet {E : Ev} {l : Launch} (hl : l.stackTraces = false) {h : Hp} {p0 : Int32} {post : Int32 → Prop} (hw : wp_X5_isOptionSet h p0 post) : MT E l yX5_isOptionSet cX5_isOptionSet 1 (some .boolean) 0 0 0 0 h [.int p0] (puI h post) (pxN) := by
  refine MT.of (by decide) hl (Nat.le_of_ble_eq_true rfl) (fun p e s m args below meth c C => ?_)
  unfold wp_X5_isOptionSet at hw
  have C : CX E p l s m args meth c cX5_isOptionSet 1 "TaktLine" "isOptionSet" (some .boolean) [] := C
  show WS E p l e (rmOf 0 0 0 0) s m args below meth c 1 (vx_MQ below (qcP E (puI h post)) (xcP E (pxN)) args s 0 0 (bsA E)) h 0 0 0 [(0, .int p0)] []
  refine r_iload_n C dX5_isOptionSet_0 rfl rfl ?_
  replace hw := hw (fun (t16_0 : Int32) => WS E p l e (rmOf 0 0 0 0) s m args below meth c 1 (vx_MQ below (qcP E (puI h post)) (xcP E (pxN)) args s 0 0 (bsA E)) h 0 0 16 [] [.int t16_0]) (by
    intro t16_0 hv
    replace hw := hv
    clear hv
    obtain ⟨y1, hw⟩ := hw
    exact r_zret C y1 dX5_isOptionSet_16 (by decide) (by decide) ⟨_, rfl, hw, rfl⟩
    )
  replace hw := hw (WS E p l e (rmOf 0 0 0 0) s m args below meth c 1 (vx_MQ below (qcP E (puI h post)) (xcP E (pxN)) args s 0 0 (bsA E)) h 0 0 15 [] []) (by
    intro hv
    replace hw := hv
    clear hv
    refine r_iconst (v := (0 : Int32)) C dX5_isOptionSet_15 (by decide) ?_
    exact (r_subk hw trivial)
    )
  refine r_if_lt C 15 dX5_isOptionSet_1 (by decide) (fun z2 => ?_) (fun z2 => ?_)
  · replace hw := hw.1 z2
    exact (r_subk hw trivial)
  · replace hw := hw.2 z2
    refine r_iload_n C dX5_isOptionSet_4 rfl rfl ?_
    refine r_sipush (v := (255 : Int32)) C dX5_isOptionSet_5 (by decide) ?_
    refine r_icmp_gt C 15 dX5_isOptionSet_8 (by decide) (fun z3 => ?_) (fun z3 => ?_)
    · replace hw := hw.1 z3
      exact (r_subk hw trivial)
    · replace hw := hw.2 z3
      refine r_iconst (v := (1 : Int32)) C dX5_isOptionSet_11 (by decide) ?_
      refine r_goto C 16 dX5_isOptionSet_12 (by decide) ?_
      exact (r_subk hw trivial)
theorem v_X5_isOptionSet : MS yX5_isOptionSet cX5_isOptionSet 1 (some .boolean) 1 := ⟨w_557, w_556, w_37, ⟨by decide +kernel, by decide +kernel, by decide +kernel⟩⟩

def wp_X5_kind (h : Hp) (this : Nat) (p0 : Int32) (p1 : Int32) (p2 : Int32) (p3 : Int32) (p4 : Int32) (post : Hp → Prop) (px : String → Hp → Prop) : Prop :=
(hT h this = 7 ∧
 wp_X5_existingKind h this p0 (fun a1 =>
 wp_X5_isFittingStation h p1 (fun x3 =>
 (∀ J29 : Prop, ((px XA h) → J29) →
 ((x3 = 0 →
 J29) ∧ (¬ (x3 = 0) →
 wp_X5_isOptionSet h p2 (fun x5 =>
 ((x5 = 0 →
 J29) ∧ (¬ (x5 = 0) →
 wp_X5_isOptionSet h p3 (fun x7 =>
 ((x7 = 0 →
 J29) ∧ (¬ (x7 = 0) →
 (∃ a9 : Nat, hR h this 2 = some a9 ∧
 (hT h a9 = 1 ∧
 wp_Jx4a65c_isEmpty_aae02 h a9 (fun x10 =>
 ((x10 = 0 →
 px XS h) ∧ (¬ (x10 = 0) →
 (hT h a1 = 4 ∧
 (∀ h14, h14 = sI h a1 0 p1 →
 (∀ h16, h16 = sI h14 a1 1 p2 →
 (∀ h18, h18 = sI h16 a1 2 p3 →
 (b01 p4 ∧
 (∀ h21, h21 = sI h18 a1 3 p4 →
 post h21)))))))))))))))))))))) (fun X => px X h))
set_option maxHeartbeats 4000000 in
set_option maxRecDepth 100000 in
theorem m_X5_kind {E : Ev} {l : Launch} (hl : l.stackTraces = false) {h : Hp} {this : Nat} {p0 : Int32} {p1 : Int32} {p2 : Int32} {p3 : Int32} {p4 : Int32} {post : Hp → Prop} {px : String → Hp → Prop} (hw : wp_X5_kind h this p0 p1 p2 p3 p4 post px) : MT E l yX5_kind cX5_kind 7 none 8 143 2 12 h [.ref this, .int p0, .int p1, .int p2, .int p3, .int p4] (poV post) (px) := by
  refine MT.of (by decide) hl (Nat.le_of_ble_eq_true rfl) (fun p e s m args below meth c C => ?_)
  unfold wp_X5_kind at hw
  have C : CX E p l s m args meth c cX5_kind 7 "TaktLine" "kind" none [] := C
  show WS E p l e (rmOf 8 2 12 143) s m args below meth c 7 (vx_MQ below (qcP E (poV post)) (xcP E (px)) args s 2 12 (bsA E)) h 0 0 0 [(0, .ref this), (1, .int p0), (2, .int p1), (3, .int p2), (4, .int p3), (5, .int p4)] []
  refine r_aload_n C dX5_kind_0 rfl rfl ?_
  refine r_iload_n C dX5_kind_1 rfl rfl ?_
  obtain ⟨g2, hw⟩ := hw
  refine r_callV (As := [.int p0]) (st := []) C (m_X5_existingKind hl hw) v_X5_existingKind w_547 K7 g2 (by decide) ob7 rfl ⟨leb rfl, leb rfl⟩ ⟨leb rfl, leb rfl⟩ rfl (leb rfl) dX5_kind_2 (fun X h9 hx => by obtain ⟨hx, rfl⟩ := hx; exact r_out C hx (by decide) (by decide)) (kpA (K := fun hK sK => WS E p l e (rmOf 8 2 12 143) s m args below meth c 7 (vx_MQ below (qcP E (poV post)) (xcP E (px)) args s 2 12 (bsA E)) hK (0 + 1) (0 + 6) (2 + 3) [(0, .ref this), (1, .int p0), (2, .int p1), (3, .int p2), (4, .int p3), (5, .int p4)] sK) (fun a1 hv => ?_))
  replace hw := hv
  clear hv
  refine r_astore C dX5_kind_5 (by decide) [(0, .ref this), (2, .int p1), (3, .int p2), (4, .int p3), (5, .int p4), (6, .ref a1)] ⟨rfl, rfl, rfl, rfl, rfl, rfl, trivial⟩ ?_
  refine r_iload_n C dX5_kind_7 rfl rfl ?_
  refine r_callS (As := [.int p1]) (st := []) C (m_X5_isFittingStation hl hw) v_X5_isFittingStation w_400 rfl ⟨leb rfl, leb rfl⟩ ⟨leb rfl, leb rfl⟩ rfl (leb rfl) dX5_kind_8 (fun _ _ z => z.elim) (kpI (K := fun hK sK => WS E p l e (rmOf 8 2 12 143) s m args below meth c 7 (vx_MQ below (qcP E (poV post)) (xcP E (px)) args s 2 12 (bsA E)) hK (1 + 0) (6 + 0) (8 + 3) [(0, .ref this), (2, .int p1), (3, .int p2), (4, .int p3), (5, .int p4), (6, .ref a1)] sK) (fun x3 hv => ?_))
  replace hw := hv
  clear hv
  replace hw := hw (WS E p l e (rmOf 8 2 12 143) s m args below meth c 7 (vx_MQ below (qcP E (poV post)) (xcP E (px)) args s 2 12 (bsA E)) h 1 6 29 [] []) (by
    intro hv
    replace hw := hv
    clear hv
    exact r_throwS C thrA (text := "station, with or without is out of range") (by decide +kernel) dX5_kind_29 dX5_kind_32 dX5_kind_33 dX5_kind_35 dX5_kind_38 (leb rfl) (leb rfl) (by decide) (by decide) hw
    )
  refine r_if_eq C 29 dX5_kind_11 (by decide) (fun z4 => ?_) (fun z4 => ?_)
  · replace hw := hw.1 z4
    exact (r_subk hw trivial)
  · replace hw := hw.2 z4
    refine r_iload_n C dX5_kind_14 rfl rfl ?_
    refine r_callS (As := [.int p2]) (st := []) C (m_X5_isOptionSet hl hw) v_X5_isOptionSet w_555 rfl ⟨leb rfl, leb rfl⟩ ⟨leb rfl, leb rfl⟩ rfl (leb rfl) dX5_kind_15 (fun _ _ z => z.elim) (kpI (K := fun hK sK => WS E p l e (rmOf 8 2 12 143) s m args below meth c 7 (vx_MQ below (qcP E (poV post)) (xcP E (px)) args s 2 12 (bsA E)) hK (1 + 0) (6 + 0) (15 + 3) [(0, .ref this), (2, .int p1), (3, .int p2), (4, .int p3), (5, .int p4), (6, .ref a1)] sK) (fun x5 hv => ?_))
    replace hw := hv
    clear hv
    refine r_if_eq C 29 dX5_kind_18 (by decide) (fun z6 => ?_) (fun z6 => ?_)
    · replace hw := hw.1 z6
      exact (r_subk hw trivial)
    · replace hw := hw.2 z6
      refine r_iload C dX5_kind_21 rfl ?_
      refine r_callS (As := [.int p3]) (st := []) C (m_X5_isOptionSet hl hw) v_X5_isOptionSet w_555 rfl ⟨leb rfl, leb rfl⟩ ⟨leb rfl, leb rfl⟩ rfl (leb rfl) dX5_kind_23 (fun _ _ z => z.elim) (kpI (K := fun hK sK => WS E p l e (rmOf 8 2 12 143) s m args below meth c 7 (vx_MQ below (qcP E (poV post)) (xcP E (px)) args s 2 12 (bsA E)) hK (1 + 0) (6 + 0) (23 + 3) [(0, .ref this), (2, .int p1), (3, .int p2), (4, .int p3), (5, .int p4), (6, .ref a1)] sK) (fun x7 hv => ?_))
      replace hw := hv
      clear hv
      refine r_if_ne C 39 dX5_kind_26 (by decide) (fun z8 => ?_) (fun z8 => ?_)
      · replace hw := hw.2 z8
        refine r_aload_n C dX5_kind_39 rfl rfl ?_
        obtain ⟨a9, e9, hw⟩ := hw
        refine r_getA C K7 ob7 g2 (by decide) 2 (by decide) w_120 (fun _ z => z) e9 rfl dX5_kind_40 ?_
        obtain ⟨g11, hw⟩ := hw
        refine r_callV (As := []) (st := []) C (m_Jx4a65c_isEmpty_aae02 hl hw) v_Jx4a65c_isEmpty_aae02 w_559 K1 g11 (by decide) ob1 rfl ⟨leb rfl, leb rfl⟩ ⟨leb rfl, leb rfl⟩ rfl (leb rfl) dX5_kind_43 (fun _ _ z => z.elim) (kpI (K := fun hK sK => WS E p l e (rmOf 8 2 12 143) s m args below meth c 7 (vx_MQ below (qcP E (poV post)) (xcP E (px)) args s 2 12 (bsA E)) hK (1 + 0) (6 + 0) (43 + 3) [(0, .ref this), (2, .int p1), (3, .int p2), (4, .int p3), (5, .int p4), (6, .ref a1)] sK) (fun x10 hv => ?_))
        replace hw := hv
        clear hv
        refine r_if_ne C 59 dX5_kind_46 (by decide) (fun z12 => ?_) (fun z12 => ?_)
        · replace hw := hw.2 z12
          refine r_aload C dX5_kind_59 rfl ?_
          refine r_iload_n C dX5_kind_61 rfl rfl ?_
          obtain ⟨g13, hw⟩ := hw
          obtain ⟨h14, eh14⟩ : ∃ z, z = sI h a1 0 p1 := ⟨_, rfl⟩
          replace hw := hw h14 eh14
          refine p_I C K4 ob4 g13 (by decide) 0 (by decide) w_102 (fun _ z => z) rfl (by decide +kernel) (Nat.le_of_ble_eq_true rfl) rfl dX5_kind_62 eh14 ?_
          refine r_aload C dX5_kind_65 rfl ?_
          refine r_iload_n C dX5_kind_67 rfl rfl ?_
          have g15 : hT h14 a1 = 4 := by rw [eh14]; exact g13
          obtain ⟨h16, eh16⟩ : ∃ z, z = sI h14 a1 1 p2 := ⟨_, rfl⟩
          replace hw := hw h16 eh16
          refine p_I C K4 ob4 g15 (by decide) 1 (by decide) w_104 (fun _ z => z) rfl (by decide +kernel) (Nat.le_of_ble_eq_true rfl) rfl dX5_kind_68 eh16 ?_
          refine r_aload C dX5_kind_71 rfl ?_
          refine r_iload C dX5_kind_73 rfl ?_
          have g17 : hT h16 a1 = 4 := by rw [eh16]; exact g15
          obtain ⟨h18, eh18⟩ : ∃ z, z = sI h16 a1 2 p3 := ⟨_, rfl⟩
          replace hw := hw h18 eh18
          refine p_I C K4 ob4 g17 (by decide) 2 (by decide) w_106 (fun _ z => z) rfl (by decide +kernel) (Nat.le_of_ble_eq_true rfl) rfl dX5_kind_75 eh18 ?_
          refine r_aload C dX5_kind_78 rfl ?_
          refine r_iload C dX5_kind_80 rfl ?_
          have g19 : hT h18 a1 = 4 := by rw [eh18]; exact g17
          obtain ⟨y20, hw⟩ := hw
          obtain ⟨h21, eh21⟩ : ∃ z, z = sI h18 a1 3 p4 := ⟨_, rfl⟩
          replace hw := hw h21 eh21
          refine p_B C K4 ob4 g19 (by decide) 3 (by decide) w_108 (fun _ z => z) rfl y20 (by decide +kernel) (Nat.le_of_ble_eq_true rfl) rfl dX5_kind_82 eh21 ?_
          exact r_vret C dX5_kind_85 (by decide) (by decide) ⟨rfl, hw⟩
        · replace hw := hw.1 z12
          exact r_throwS C thrS (text := "there are cars") (by decide +kernel) dX5_kind_49 dX5_kind_52 dX5_kind_53 dX5_kind_55 dX5_kind_58 (leb rfl) (leb rfl) (by decide) (by decide) hw
      · replace hw := hw.1 z8
        exact (r_subk hw trivial)
theorem v_X5_kind : MV yX5_kind cX5_kind 7 none 5 := ⟨w_546, w_544, w_545, w_37, ⟨by decide +kernel, by decide +kernel, by decide +kernel⟩⟩

def wp_X5_lot (dE : Nat) (h : Hp) (this : Nat) (p0 : Int32) (p1 : Int32) (p2 : Int32) (post : Int32 → Hp → Prop) (px : String → Hp → Prop) : Prop :=
wp_X5_checkKind h p0 ((∀ J26 : Prop, ((px XA h) → J26) →
 ((p1 < (1 : Int32) →
 J26) ∧ (¬ (p1 < (1 : Int32)) →
 (((99 : Int32) < p1 →
 J26) ∧ (¬ ((99 : Int32) < p1) →
 ((p2 < (1 : Int32) →
 J26) ∧ (¬ (p2 < (1 : Int32)) →
 ((p2 ≤ (50 : Int32) →
 (hT h this = 7 ∧
 (∃ a7 : Nat, hR h this 1 = some a7 ∧
 (hT h a7 = 1 ∧
 wp_Jx4a65c_size_8abf5 h a7 (fun x8 =>
 ((x8 < (40 : Int32) →
 (∃ a11 : Nat, hR h this 1 = some a11 ∧
 (∀ q12 : Nat, hT h q12 = 0 →
 (∀ h13, h13 = sN h q12 5 0 →
 wp_X3_init h13 q12 x8 p0 p1 p2 (fun h15 =>
 (hT h15 a11 = 1 ∧
 wp_Jx4a65c_add_9ea2d dE 1 49 h15 a11 q12 (fun x16 h16 =>
 post x8 h16))))))) ∧ (¬ (x8 < (40 : Int32)) →
 px XS h))))))) ∧ (¬ (p2 ≤ (50 : Int32)) →
 J26)))))))))) (fun X => px X h)
set_option maxHeartbeats 4000000 in
set_option maxRecDepth 100000 in
theorem m_X5_lot {E : Ev} {l : Launch} (hl : l.stackTraces = false) {h : Hp} {this : Nat} {p0 : Int32} {p1 : Int32} {p2 : Int32} {post : Int32 → Hp → Prop} {px : String → Hp → Prop} (hw : wp_X5_lot (eE E) h this p0 p1 p2 post px) : MT E l yX5_lot cX5_lot 5 (some .int) 7 171 3 60 h [.ref this, .int p0, .int p1, .int p2] (poI post) (px) := by
  refine MT.of (by decide) hl (Nat.le_of_ble_eq_true rfl) (fun p e s m args below meth c C => ?_)
  unfold wp_X5_lot at hw
  have C : CX E p l s m args meth c cX5_lot 5 "TaktLine" "lot" (some .int) [] := C
  show WS E p l e (rmOf 7 3 60 171) s m args below meth c 5 (vx_MQ below (qcP E (poI post)) (xcP E (px)) args s 3 60 (bsA E)) h 0 0 0 [(0, .ref this), (1, .int p0), (2, .int p1), (3, .int p2)] []
  refine r_iload_n C dX5_lot_0 rfl rfl ?_
  refine r_callS (As := [.int p0]) (st := []) C (m_X5_checkKind hl hw) v_X5_checkKind w_551 rfl ⟨leb rfl, leb rfl⟩ ⟨leb rfl, leb rfl⟩ rfl (leb rfl) dX5_lot_1 (fun X h9 hx => by obtain ⟨hx, rfl⟩ := hx; exact r_out C hx (by decide) (by decide)) (kpV (K := fun hK sK => WS E p l e (rmOf 7 3 60 171) s m args below meth c 5 (vx_MQ below (qcP E (poI post)) (xcP E (px)) args s 3 60 (bsA E)) hK (0 + 1) (0 + 6) (1 + 3) [(0, .ref this), (1, .int p0), (2, .int p1), (3, .int p2)] sK) (fun hv => ?_))
  replace hw := hv
  clear hv
  refine r_iload_n C dX5_lot_4 rfl rfl ?_
  refine r_iconst (v := (1 : Int32)) C dX5_lot_5 (by decide) ?_
  replace hw := hw (WS E p l e (rmOf 7 3 60 171) s m args below meth c 5 (vx_MQ below (qcP E (poI post)) (xcP E (px)) args s 3 60 (bsA E)) h 1 6 26 [] []) (by
    intro hv
    replace hw := hv
    clear hv
    exact r_throwS C thrA (text := "version or units is out of range") (by decide +kernel) dX5_lot_26 dX5_lot_29 dX5_lot_30 dX5_lot_32 dX5_lot_35 (leb rfl) (leb rfl) (by decide) (by decide) hw
    )
  refine r_icmp_lt C 26 dX5_lot_6 (by decide) (fun z2 => ?_) (fun z2 => ?_)
  · replace hw := hw.1 z2
    exact (r_subk hw trivial)
  · replace hw := hw.2 z2
    refine r_iload_n C dX5_lot_9 rfl rfl ?_
    refine r_bipush (v := (99 : Int32)) C dX5_lot_10 (by decide) ?_
    refine r_icmp_gt C 26 dX5_lot_12 (by decide) (fun z3 => ?_) (fun z3 => ?_)
    · replace hw := hw.1 z3
      exact (r_subk hw trivial)
    · replace hw := hw.2 z3
      refine r_iload_n C dX5_lot_15 rfl rfl ?_
      refine r_iconst (v := (1 : Int32)) C dX5_lot_16 (by decide) ?_
      refine r_icmp_lt C 26 dX5_lot_17 (by decide) (fun z4 => ?_) (fun z4 => ?_)
      · replace hw := hw.1 z4
        exact (r_subk hw trivial)
      · replace hw := hw.2 z4
        refine r_iload_n C dX5_lot_20 rfl rfl ?_
        refine r_bipush (v := (50 : Int32)) C dX5_lot_21 (by decide) ?_
        refine r_icmp_le C 36 dX5_lot_23 (by decide) (fun z5 => ?_) (fun z5 => ?_)
        · replace hw := hw.1 z5
          refine r_aload_n C dX5_lot_36 rfl rfl ?_
          obtain ⟨g6, hw⟩ := hw
          obtain ⟨a7, e7, hw⟩ := hw
          refine r_getA C K7 ob7 g6 (by decide) 1 (by decide) w_119 (fun _ z => z) e7 rfl dX5_lot_37 ?_
          obtain ⟨g9, hw⟩ := hw
          refine r_callV (As := []) (st := []) C (m_Jx4a65c_size_8abf5 hl hw) v_Jx4a65c_size_8abf5 w_365 K1 g9 (by decide) ob1 rfl ⟨leb rfl, leb rfl⟩ ⟨leb rfl, leb rfl⟩ rfl (leb rfl) dX5_lot_40 (fun _ _ z => z.elim) (kpI (K := fun hK sK => WS E p l e (rmOf 7 3 60 171) s m args below meth c 5 (vx_MQ below (qcP E (poI post)) (xcP E (px)) args s 3 60 (bsA E)) hK (1 + 0) (6 + 0) (40 + 3) [(0, .ref this), (1, .int p0), (2, .int p1), (3, .int p2)] sK) (fun x8 hv => ?_))
          replace hw := hv
          clear hv
          refine r_istore C dX5_lot_43 (by decide) [(0, .ref this), (1, .int p0), (2, .int p1), (3, .int p2), (4, .int x8)] ⟨rfl, rfl, rfl, rfl, rfl, trivial⟩ ?_
          refine r_iload C dX5_lot_45 rfl ?_
          refine r_bipush (v := (40 : Int32)) C dX5_lot_47 (by decide) ?_
          refine r_icmp_lt C 62 dX5_lot_49 (by decide) (fun z10 => ?_) (fun z10 => ?_)
          · replace hw := hw.1 z10
            refine r_aload_n C dX5_lot_62 rfl rfl ?_
            obtain ⟨a11, e11, hw⟩ := hw
            refine r_getA C K7 ob7 g6 (by decide) 1 (by decide) w_119 (fun _ z => z) e11 rfl dX5_lot_63 ?_
            refine r_new (t := 5) C K5 w_434 w_574 w_48 (by decide +kernel) ob5 (by decide) (by decide) (by decide) dX5_lot_66 (fun q12 z12 => ?_)
            replace hw := hw q12 z12
            obtain ⟨h13, eh13⟩ : ∃ z, z = sN h q12 5 0 := ⟨_, rfl⟩
            replace hw := hw h13 eh13
            rw [← eh13]
            have g14 : hT h13 q12 = 5 := by rw [eh13]; exact tag_new
            refine r_dup C dX5_lot_69 rfl ?_
            refine r_iload C dX5_lot_70 rfl ?_
            refine r_iload_n C dX5_lot_72 rfl rfl ?_
            refine r_iload_n C dX5_lot_73 rfl rfl ?_
            refine r_iload_n C dX5_lot_74 rfl rfl ?_
            refine r_callI (As := [.int x8, .int p0, .int p1, .int p2]) (st := [.ref q12, .ref a11]) C (m_X3_init hl hw) v_X3_init w_575 rfl ⟨leb rfl, leb rfl⟩ ⟨leb rfl, leb rfl⟩ rfl (leb rfl) dX5_lot_75 (fun _ _ z => z.elim) (kkV (K := fun hK sK => WS E p l e (rmOf 7 3 60 171) s m args below meth c 5 (vx_MQ below (qcP E (poI post)) (xcP E (px)) args s 3 60 (bsA E)) hK (2 + 0) (11 + 0) (75 + 3) [(0, .ref this), (1, .int p0), (2, .int p1), (3, .int p2), (4, .int x8)] sK) (fun h15 hv => ?_))
            replace hw := hv
            clear hv
            obtain ⟨g17, hw⟩ := hw
            refine r_callV (As := [.ref q12]) (st := []) C (m_Jx4a65c_add_9ea2d hl hw) v_Jx4a65c_add_9ea2d w_259 K1 g17 (by decide) ob1 rfl ⟨leb rfl, leb rfl⟩ ⟨leb rfl, leb rfl⟩ rfl (leb rfl) dX5_lot_78 (fun _ _ z => z.elim) (kkI (K := fun hK sK => WS E p l e (rmOf 7 3 60 171) s m args below meth c 5 (vx_MQ below (qcP E (poI post)) (xcP E (px)) args s 3 60 (bsA E)) hK (2 + 1) (11 + 49) (78 + 3) [(0, .ref this), (1, .int p0), (2, .int p1), (3, .int p2), (4, .int x8)] sK) (fun x16 h16 hv => ?_))
            replace hw := hv
            clear hv
            refine r_pop C dX5_lot_81 rfl ?_
            refine r_iload C dX5_lot_82 rfl ?_
            exact r_iret C dX5_lot_84 (by decide) (by decide) ⟨_, rfl, hw⟩
          · replace hw := hw.2 z10
            exact r_throwS C thrS (text := "there are 40 lots") (by decide +kernel) dX5_lot_52 dX5_lot_55 dX5_lot_56 dX5_lot_58 dX5_lot_61 (leb rfl) (leb rfl) (by decide) (by decide) hw
        · replace hw := hw.2 z5
          exact (r_subk hw trivial)
theorem v_X5_lot : MV yX5_lot cX5_lot 5 (some .int) 3 := ⟨w_571, w_569, w_570, w_37, ⟨by decide +kernel, by decide +kernel, by decide +kernel⟩⟩

def wp_X5_existingLot (h : Hp) (this : Nat) (p0 : Int32) (post : Nat → Prop) (px : String → Prop) : Prop :=
(∀ J15 : Prop, ((px XB) → J15) →
 ((p0 < 0 →
 J15) ∧ (¬ (p0 < 0) →
 (hT h this = 7 ∧
 (∃ a3 : Nat, hR h this 1 = some a3 ∧
 (hT h a3 = 1 ∧
 wp_Jx4a65c_size_8abf5 h a3 (fun x4 =>
 ((p0 < x4 →
 (∃ a7 : Nat, hR h this 1 = some a7 ∧
 (hT h a7 = 1 ∧
 wp_Jx4a65c_get_915e3 h a7 p0 (fun a8 =>
 (hT h a8 = 5 ∧
 post a8))))) ∧ (¬ (p0 < x4) →
 J15)))))))))
set_option maxHeartbeats 4000000 in
set_option maxRecDepth 100000 in
theorem m_X5_existingLot {E : Ev} {l : Launch} (hl : l.stackTraces = false) {h : Hp} {this : Nat} {p0 : Int32} {post : Nat → Prop} {px : String → Prop} (hw : wp_X5_existingLot h this p0 post px) : MT E l yX5_existingLot cX5_existingLot 2 (some (.object "TaktLine$Lot")) 6 102 1 6 h [.ref this, .int p0] (puA h post) (pxP h px) := by
  refine MT.of (by decide) hl (Nat.le_of_ble_eq_true rfl) (fun p e s m args below meth c C => ?_)
  unfold wp_X5_existingLot at hw
  have C : CX E p l s m args meth c cX5_existingLot 2 "TaktLine" "existingLot" (some (.object "TaktLine$Lot")) [] := C
  show WS E p l e (rmOf 6 1 6 102) s m args below meth c 2 (vx_MQ below (qcP E (puA h post)) (xcP E (pxP h px)) args s 1 6 (bsA E)) h 0 0 0 [(0, .ref this), (1, .int p0)] []
  refine r_iload_n C dX5_existingLot_0 rfl rfl ?_
  replace hw := hw (WS E p l e (rmOf 6 1 6 102) s m args below meth c 2 (vx_MQ below (qcP E (puA h post)) (xcP E (pxP h px)) args s 1 6 (bsA E)) h 0 0 15 [] []) (by
    intro hv
    replace hw := hv
    clear hv
    exact r_throwSW C thrB (text := "there is no such lot") (by decide +kernel) dX5_existingLot_15 dX5_existingLot_18 dX5_existingLot_19 dX5_existingLot_22 dX5_existingLot_25 (leb rfl) (leb rfl) (by decide) (by decide) ⟨hw, rfl⟩
    )
  refine r_if_lt C 15 dX5_existingLot_1 (by decide) (fun z1 => ?_) (fun z1 => ?_)
  · replace hw := hw.1 z1
    exact (r_subk hw trivial)
  · replace hw := hw.2 z1
    refine r_iload_n C dX5_existingLot_4 rfl rfl ?_
    refine r_aload_n C dX5_existingLot_5 rfl rfl ?_
    obtain ⟨g2, hw⟩ := hw
    obtain ⟨a3, e3, hw⟩ := hw
    refine r_getA C K7 ob7 g2 (by decide) 1 (by decide) w_119 (fun _ z => z) e3 rfl dX5_existingLot_6 ?_
    obtain ⟨g5, hw⟩ := hw
    refine r_callV (As := []) (st := [.int p0]) C (m_Jx4a65c_size_8abf5 hl hw) v_Jx4a65c_size_8abf5 w_365 K1 g5 (by decide) ob1 rfl ⟨leb rfl, leb rfl⟩ ⟨leb rfl, leb rfl⟩ rfl (leb rfl) dX5_existingLot_9 (fun _ _ z => z.elim) (kpI (K := fun hK sK => WS E p l e (rmOf 6 1 6 102) s m args below meth c 2 (vx_MQ below (qcP E (puA h post)) (xcP E (pxP h px)) args s 1 6 (bsA E)) hK (0 + 0) (0 + 0) (9 + 3) [(0, .ref this), (1, .int p0)] sK) (fun x4 hv => ?_))
    replace hw := hv
    clear hv
    refine r_icmp_lt C 26 dX5_existingLot_12 (by decide) (fun z6 => ?_) (fun z6 => ?_)
    · replace hw := hw.1 z6
      refine r_aload_n C dX5_existingLot_26 rfl rfl ?_
      obtain ⟨a7, e7, hw⟩ := hw
      refine r_getA C K7 ob7 g2 (by decide) 1 (by decide) w_119 (fun _ z => z) e7 rfl dX5_existingLot_27 ?_
      refine r_iload_n C dX5_existingLot_30 rfl rfl ?_
      obtain ⟨g9, hw⟩ := hw
      refine r_callV (As := [.int p0]) (st := []) C (m_Jx4a65c_get_915e3 hl hw) v_Jx4a65c_get_915e3 w_369 K1 g9 (by decide) ob1 rfl ⟨leb rfl, leb rfl⟩ ⟨leb rfl, leb rfl⟩ rfl (leb rfl) dX5_existingLot_31 (fun _ _ z => z.elim) (kpA (K := fun hK sK => WS E p l e (rmOf 6 1 6 102) s m args below meth c 2 (vx_MQ below (qcP E (puA h post)) (xcP E (pxP h px)) args s 1 6 (bsA E)) hK (0 + 0) (0 + 0) (31 + 3) [(0, .ref this), (1, .int p0)] sK) (fun a8 hv => ?_))
      replace hw := hv
      clear hv
      obtain ⟨g10, hw⟩ := hw
      refine r_cast (r := some a8) (t := 5) C K5 w_434 (fun x z => by cases z; exact g10) (by decide) (fun x => ob5) dX5_existingLot_34 ?_
      exact r_aret (r := some a8) C (Or.inl ⟨_, rfl⟩) dX5_existingLot_37 (by decide) (by decide) ⟨_, rfl, hw, rfl⟩
    · replace hw := hw.2 z6
      exact (r_subk hw trivial)
theorem v_X5_existingLot : MV yX5_existingLot cX5_existingLot 2 (some (.object "TaktLine$Lot")) 1 := ⟨w_611, w_610, w_32, w_37, ⟨by decide +kernel, by decide +kernel, by decide +kernel⟩⟩

def wp_X5_carsWithUnitOf (h : Hp) (this : Nat) (p0 : Nat) (post : Int32 → Prop) : Prop :=
(∀ J4 : Int32 → Int32 → Prop, (∀ (v4_2 : Int32) (v4_3 : Int32), (hT h this = 7 ∧
 (∃ a2 : Nat, hR h this 2 = some a2 ∧
 (hT h a2 = 1 ∧
 wp_Jx4a65c_size_8abf5 h a2 (fun x3 =>
 ((x3 ≤ v4_3 →
 post v4_2) ∧ (¬ (x3 ≤ v4_3) →
 (∃ a6 : Nat, hR h this 2 = some a6 ∧
 (hT h a6 = 1 ∧
 wp_Jx4a65c_get_915e3 h a6 v4_3 (fun a7 =>
 (hT h a7 = 2 ∧
 (∃ a10 : Nat, hR h a7 2 = some a10 ∧
 (hT h p0 = 5 ∧
 (∃ x12 : Int32, hI h p0 1 = x12 ∧
 (hT h a10 = 24 ∧
 (∃ j14 : Nat, x12 = nI j14 ∧ j14 < 2147483648 ∧ j14 < hL h a10 ∧
 (∃ r15 : Option Nat, hR h a10 j14 = r15 ∧
 (∀ J41 : Int32 → Prop, (∀ (v41_2 : Int32), (J4 v41_2 (v4_3 + (1 : Int32))) → J41 v41_2) →
 ((r15 = some p0 →
 J41 (v4_2 + (1 : Int32))) ∧ (¬ (r15 = some p0) →
 J41 v4_2))))))))))))))))))) → J4 v4_2 v4_3) →
 J4 (0 : Int32) (0 : Int32))
set_option maxHeartbeats 4000000 in
set_option maxRecDepth 100000 in
theorem m_X5_carsWithUnitOf {E : Ev} {l : Launch} (hl : l.stackTraces = false) {h : Hp} {this : Nat} {p0 : Nat} {post : Int32 → Prop} (hw : wp_X5_carsWithUnitOf h this p0 post) : MT E l yX5_carsWithUnitOf cX5_carsWithUnitOf 4 (some .int) 3 64 0 0 h [.ref this, .ref p0] (puI h post) (pxN) := by
  refine MT.of (by decide) hl (Nat.le_of_ble_eq_true rfl) (fun p e s m args below meth c C => ?_)
  unfold wp_X5_carsWithUnitOf at hw
  have C : CX E p l s m args meth c cX5_carsWithUnitOf 4 "TaktLine" "carsWithUnitOf" (some .int) [] := C
  show WS E p l e (rmOf 3 0 0 64) s m args below meth c 4 (vx_MQ below (qcP E (puI h post)) (xcP E (pxN)) args s 0 0 (bsA E)) h 0 0 0 [(0, .ref this), (1, .ref p0)] []
  refine r_iconst (v := (0 : Int32)) C dX5_carsWithUnitOf_0 (by decide) ?_
  refine r_istore_n C dX5_carsWithUnitOf_1 rfl (by decide) [(0, .ref this), (1, .ref p0), (2, .int (0 : Int32))] ⟨rfl, rfl, rfl, trivial⟩ ?_
  refine r_iconst (v := (0 : Int32)) C dX5_carsWithUnitOf_2 (by decide) ?_
  refine r_istore_n C dX5_carsWithUnitOf_3 rfl (by decide) [(0, .ref this), (1, .ref p0), (2, .int (0 : Int32)), (3, .int (0 : Int32))] ⟨rfl, rfl, rfl, rfl, trivial⟩ ?_
  replace hw := hw (fun (v4_2 : Int32) (v4_3 : Int32) => WS E p l e (rmOf 3 0 0 64) s m args below meth c 4 (vx_MQ below (qcP E (puI h post)) (xcP E (pxN)) args s 0 0 (bsA E)) h 0 0 4 [(0, .ref this), (1, .ref p0), (2, .int v4_2), (3, .int v4_3)] []) (by
    intro v4_2 v4_3 hv
    replace hw := hv
    clear hv
    refine r_iload_n C dX5_carsWithUnitOf_4 rfl rfl ?_
    refine r_aload_n C dX5_carsWithUnitOf_5 rfl rfl ?_
    obtain ⟨g1, hw⟩ := hw
    obtain ⟨a2, e2, hw⟩ := hw
    refine r_getA C K7 ob7 g1 (by decide) 2 (by decide) w_120 (fun _ z => z) e2 rfl dX5_carsWithUnitOf_6 ?_
    obtain ⟨g4, hw⟩ := hw
    refine r_callV (As := []) (st := [.int v4_3]) C (m_Jx4a65c_size_8abf5 hl hw) v_Jx4a65c_size_8abf5 w_365 K1 g4 (by decide) ob1 rfl ⟨leb rfl, leb rfl⟩ ⟨leb rfl, leb rfl⟩ rfl (leb rfl) dX5_carsWithUnitOf_9 (fun _ _ z => z.elim) (kpI (K := fun hK sK => WS E p l e (rmOf 3 0 0 64) s m args below meth c 4 (vx_MQ below (qcP E (puI h post)) (xcP E (pxN)) args s 0 0 (bsA E)) hK (0 + 0) (0 + 0) (9 + 3) [(0, .ref this), (1, .ref p0), (2, .int v4_2), (3, .int v4_3)] sK) (fun x3 hv => ?_))
    replace hw := hv
    clear hv
    refine r_icmp_ge C 47 dX5_carsWithUnitOf_12 (by decide) (fun z5 => ?_) (fun z5 => ?_)
    · replace hw := hw.1 z5
      refine r_iload_n C dX5_carsWithUnitOf_47 rfl rfl ?_
      exact r_iret C dX5_carsWithUnitOf_48 (by decide) (by decide) ⟨_, rfl, hw, rfl⟩
    · replace hw := hw.2 z5
      refine r_aload_n C dX5_carsWithUnitOf_15 rfl rfl ?_
      obtain ⟨a6, e6, hw⟩ := hw
      refine r_getA C K7 ob7 g1 (by decide) 2 (by decide) w_120 (fun _ z => z) e6 rfl dX5_carsWithUnitOf_16 ?_
      refine r_iload_n C dX5_carsWithUnitOf_19 rfl rfl ?_
      obtain ⟨g8, hw⟩ := hw
      refine r_callV (As := [.int v4_3]) (st := []) C (m_Jx4a65c_get_915e3 hl hw) v_Jx4a65c_get_915e3 w_369 K1 g8 (by decide) ob1 rfl ⟨leb rfl, leb rfl⟩ ⟨leb rfl, leb rfl⟩ rfl (leb rfl) dX5_carsWithUnitOf_20 (fun _ _ z => z.elim) (kpA (K := fun hK sK => WS E p l e (rmOf 3 0 0 64) s m args below meth c 4 (vx_MQ below (qcP E (puI h post)) (xcP E (pxN)) args s 0 0 (bsA E)) hK (0 + 0) (0 + 0) (20 + 3) [(0, .ref this), (1, .ref p0), (2, .int v4_2), (3, .int v4_3)] sK) (fun a7 hv => ?_))
      replace hw := hv
      clear hv
      obtain ⟨g9, hw⟩ := hw
      refine r_cast (r := some a7) (t := 2) C K2 w_94 (fun x z => by cases z; exact g9) (by decide) (fun x => ob2) dX5_carsWithUnitOf_23 ?_
      obtain ⟨a10, e10, hw⟩ := hw
      refine r_getA C K2 ob2 g9 (by decide) 2 (by decide) w_639 (fun _ z => z) e10 rfl dX5_carsWithUnitOf_26 ?_
      refine r_aload_n C dX5_carsWithUnitOf_29 rfl rfl ?_
      obtain ⟨g11, hw⟩ := hw
      obtain ⟨x12, e12, hw⟩ := hw
      refine r_getI C K5 ob5 g11 (by decide) 1 (by decide) w_582 (fun _ z => z) e12 rfl dX5_carsWithUnitOf_30 ?_
      obtain ⟨g13, hw⟩ := hw
      obtain ⟨j14, f14, l14, k14, hw⟩ := hw
      obtain ⟨r15, e15, hw⟩ := hw
      refine a_R C ar24 g13 (by decide) (t0 := 4) rfl f14 l14 k14 e15 dX5_carsWithUnitOf_33 ?_
      refine r_aload_n C dX5_carsWithUnitOf_34 rfl rfl ?_
      replace hw := hw (fun (v41_2 : Int32) => WS E p l e (rmOf 3 0 0 64) s m args below meth c 4 (vx_MQ below (qcP E (puI h post)) (xcP E (pxN)) args s 0 0 (bsA E)) h 0 0 41 [(0, .ref this), (1, .ref p0), (2, .int v41_2), (3, .int v4_3)] []) (by
        intro v41_2 hv
        replace hw := hv
        clear hv
        refine r_iinc C (v4_3 + (1 : Int32)) dX5_carsWithUnitOf_41 rfl rfl (by decide) [(0, .ref this), (1, .ref p0), (2, .int v41_2), (3, .int (v4_3 + (1 : Int32)))] ⟨rfl, rfl, rfl, rfl, trivial⟩ ?_
        refine r_goto C 4 dX5_carsWithUnitOf_44 (by decide) ?_
        exact (r_subk hw ⟨rfl, rfl, rfl, rfl, trivial⟩)
        )
      refine r_acmp_ne (rx := r15) (ry := some p0) C 41 dX5_carsWithUnitOf_35 (by decide) (fun z16 => ?_) (fun z16 => ?_)
      · replace hw := hw.2 z16
        exact (r_subk hw ⟨rfl, rfl, rfl, rfl, trivial⟩)
      · replace hw := hw.1 z16
        refine r_iinc C (v4_2 + (1 : Int32)) dX5_carsWithUnitOf_38 rfl rfl (by decide) [(0, .ref this), (1, .ref p0), (2, .int (v4_2 + (1 : Int32))), (3, .int v4_3)] ⟨rfl, rfl, rfl, rfl, trivial⟩ ?_
        exact (r_subk hw ⟨rfl, rfl, rfl, rfl, trivial⟩)
    )
  exact (r_subk hw ⟨rfl, rfl, rfl, rfl, trivial⟩)
theorem v_X5_carsWithUnitOf : MV yX5_carsWithUnitOf cX5_carsWithUnitOf 4 (some .int) 1 := ⟨w_617, w_616, w_33, w_37, ⟨by decide +kernel, by decide +kernel, by decide +kernel⟩⟩

def wp_X5_recall (h : Hp) (this : Nat) (p0 : Int32) (post : Int32 → Hp → Prop) (px : String → Hp → Prop) : Prop :=
(hT h this = 7 ∧
 wp_X5_existingLot h this p0 (fun a1 =>
 (hT h a1 = 5 ∧
 (∃ x4 : Int32, hI h a1 4 = x4 ∧
 ((x4 = 0 →
 (∀ h6, h6 = sI h a1 4 (1 : Int32) →
 wp_X5_carsWithUnitOf h6 this a1 (fun x7 =>
 post x7 h6))) ∧ (¬ (x4 = 0) →
 px XS h))))) (fun X => px X h))
set_option maxHeartbeats 4000000 in
set_option maxRecDepth 100000 in
theorem m_X5_recall {E : Ev} {l : Launch} (hl : l.stackTraces = false) {h : Hp} {this : Nat} {p0 : Int32} {post : Int32 → Hp → Prop} {px : String → Hp → Prop} (hw : wp_X5_recall h this p0 post px) : MT E l yX5_recall cX5_recall 3 (some .int) 7 123 2 12 h [.ref this, .int p0] (poI post) (px) := by
  refine MT.of (by decide) hl (Nat.le_of_ble_eq_true rfl) (fun p e s m args below meth c C => ?_)
  unfold wp_X5_recall at hw
  have C : CX E p l s m args meth c cX5_recall 3 "TaktLine" "recall" (some .int) [] := C
  show WS E p l e (rmOf 7 2 12 123) s m args below meth c 3 (vx_MQ below (qcP E (poI post)) (xcP E (px)) args s 2 12 (bsA E)) h 0 0 0 [(0, .ref this), (1, .int p0)] []
  refine r_aload_n C dX5_recall_0 rfl rfl ?_
  refine r_iload_n C dX5_recall_1 rfl rfl ?_
  obtain ⟨g2, hw⟩ := hw
  refine r_callV (As := [.int p0]) (st := []) C (m_X5_existingLot hl hw) v_X5_existingLot w_608 K7 g2 (by decide) ob7 rfl ⟨leb rfl, leb rfl⟩ ⟨leb rfl, leb rfl⟩ rfl (leb rfl) dX5_recall_2 (fun X h9 hx => by obtain ⟨hx, rfl⟩ := hx; exact r_out C hx (by decide) (by decide)) (kpA (K := fun hK sK => WS E p l e (rmOf 7 2 12 123) s m args below meth c 3 (vx_MQ below (qcP E (poI post)) (xcP E (px)) args s 2 12 (bsA E)) hK (0 + 1) (0 + 6) (2 + 3) [(0, .ref this), (1, .int p0)] sK) (fun a1 hv => ?_))
  replace hw := hv
  clear hv
  refine r_astore_n C dX5_recall_5 rfl (by decide) [(0, .ref this), (2, .ref a1)] ⟨rfl, rfl, trivial⟩ ?_
  refine r_aload_n C dX5_recall_6 rfl rfl ?_
  obtain ⟨g3, hw⟩ := hw
  obtain ⟨x4, e4, hw⟩ := hw
  refine r_getI C K5 ob5 g3 (by decide) 4 (by decide) w_589 (fun _ z => z) e4 rfl dX5_recall_7 ?_
  refine r_if_eq C 23 dX5_recall_10 (by decide) (fun z5 => ?_) (fun z5 => ?_)
  · replace hw := hw.1 z5
    refine r_aload_n C dX5_recall_23 rfl rfl ?_
    refine r_iconst (v := (1 : Int32)) C dX5_recall_24 (by decide) ?_
    obtain ⟨h6, eh6⟩ : ∃ z, z = sI h a1 4 (1 : Int32) := ⟨_, rfl⟩
    replace hw := hw h6 eh6
    refine p_B C K5 ob5 g3 (by decide) 4 (by decide) w_589 (fun _ z => z) rfl (Or.inr rfl) (by decide +kernel) (Nat.le_of_ble_eq_true rfl) rfl dX5_recall_25 eh6 ?_
    refine r_aload_n C dX5_recall_28 rfl rfl ?_
    refine r_aload_n C dX5_recall_29 rfl rfl ?_
    have g8 : hT h6 this = 7 := by rw [eh6]; exact g2
    refine r_callV (As := [.ref a1]) (st := []) C (m_X5_carsWithUnitOf hl hw) v_X5_carsWithUnitOf w_614 K7 g8 (by decide) ob7 rfl ⟨leb rfl, leb rfl⟩ ⟨leb rfl, leb rfl⟩ rfl (leb rfl) dX5_recall_30 (fun _ _ z => z.elim) (kpI (K := fun hK sK => WS E p l e (rmOf 7 2 12 123) s m args below meth c 3 (vx_MQ below (qcP E (poI post)) (xcP E (px)) args s 2 12 (bsA E)) hK (1 + 0) (6 + 0) (30 + 3) [(0, .ref this), (2, .ref a1)] sK) (fun x7 hv => ?_))
    replace hw := hv
    clear hv
    exact r_iret C dX5_recall_33 (by decide) (by decide) ⟨_, rfl, hw⟩
  · replace hw := hw.2 z5
    exact r_throwS C thrS (text := "the lot is recalled") (by decide +kernel) dX5_recall_13 dX5_recall_16 dX5_recall_17 dX5_recall_19 dX5_recall_22 (leb rfl) (leb rfl) (by decide) (by decide) hw
theorem v_X5_recall : MV yX5_recall cX5_recall 3 (some .int) 1 := ⟨w_607, w_605, w_606, w_37, ⟨by decide +kernel, by decide +kernel, by decide +kernel⟩⟩

def wp_X5_units (h : Hp) (this : Nat) (p0 : Int32) (post : Int32 → Prop) (px : String → Prop) : Prop :=
(hT h this = 7 ∧
 wp_X5_existingLot h this p0 (fun a1 =>
 (hT h a1 = 5 ∧
 (∃ x4 : Int32, hI h a1 3 = x4 ∧
 post x4))) px)
set_option maxHeartbeats 4000000 in
set_option maxRecDepth 100000 in
theorem m_X5_units {E : Ev} {l : Launch} (hl : l.stackTraces = false) {h : Hp} {this : Nat} {p0 : Int32} {post : Int32 → Prop} {px : String → Prop} (hw : wp_X5_units h this p0 post px) : MT E l yX5_units cX5_units 2 (some .int) 7 123 1 6 h [.ref this, .int p0] (puI h post) (pxP h px) := by
  refine MT.of (by decide) hl (Nat.le_of_ble_eq_true rfl) (fun p e s m args below meth c C => ?_)
  unfold wp_X5_units at hw
  have C : CX E p l s m args meth c cX5_units 2 "TaktLine" "units" (some .int) [] := C
  show WS E p l e (rmOf 7 1 6 123) s m args below meth c 2 (vx_MQ below (qcP E (puI h post)) (xcP E (pxP h px)) args s 1 6 (bsA E)) h 0 0 0 [(0, .ref this), (1, .int p0)] []
  refine r_aload_n C dX5_units_0 rfl rfl ?_
  refine r_iload_n C dX5_units_1 rfl rfl ?_
  obtain ⟨g2, hw⟩ := hw
  refine r_callV (As := [.int p0]) (st := []) C (m_X5_existingLot hl hw) v_X5_existingLot w_608 K7 g2 (by decide) ob7 rfl ⟨leb rfl, leb rfl⟩ ⟨leb rfl, leb rfl⟩ rfl (leb rfl) dX5_units_2 (fun X h9 hx => by obtain ⟨hx, rfl⟩ := hx; exact r_out C ⟨hx, rfl⟩ (by decide) (by decide)) (kpA (K := fun hK sK => WS E p l e (rmOf 7 1 6 123) s m args below meth c 2 (vx_MQ below (qcP E (puI h post)) (xcP E (pxP h px)) args s 1 6 (bsA E)) hK (0 + 1) (0 + 6) (2 + 3) [(0, .ref this), (1, .int p0)] sK) (fun a1 hv => ?_))
  replace hw := hv
  clear hv
  obtain ⟨g3, hw⟩ := hw
  obtain ⟨x4, e4, hw⟩ := hw
  refine r_getI C K5 ob5 g3 (by decide) 3 (by decide) w_586 (fun _ z => z) e4 rfl dX5_units_5 ?_
  exact r_iret C dX5_units_8 (by decide) (by decide) ⟨_, rfl, hw, rfl⟩
theorem v_X5_units : MV yX5_units cX5_units 2 (some .int) 1 := ⟨w_750, w_748, w_749, w_37, ⟨by decide +kernel, by decide +kernel, by decide +kernel⟩⟩

def wp_X5_order (dE : Nat) (h : Hp) (this : Nat) (p0 : Int32) (post : Int32 → Hp → Prop) (px : String → Hp → Prop) : Prop :=
wp_X5_isOptionSet h p0 (fun x1 =>
 ((x1 = 0 →
 px XA h) ∧ (¬ (x1 = 0) →
 (hT h this = 7 ∧
 (∃ a4 : Nat, hR h this 2 = some a4 ∧
 (hT h a4 = 1 ∧
 wp_Jx4a65c_size_8abf5 h a4 (fun x5 =>
 ((x5 < (30 : Int32) →
 (∃ a8 : Nat, hR h this 2 = some a8 ∧
 (∀ q9 : Nat, hT h q9 = 0 →
 (∀ h10, h10 = sN h q9 2 0 →
 wp_X0_init h10 q9 x5 p0 (fun h12 =>
 (hT h12 a8 = 1 ∧
 wp_Jx4a65c_add_9ea2d dE 1 49 h12 a8 q9 (fun x13 h13 =>
 post x5 h13))))))) ∧ (¬ (x5 < (30 : Int32)) →
 px XS h)))))))))
set_option maxHeartbeats 4000000 in
set_option maxRecDepth 100000 in
theorem m_X5_order {E : Ev} {l : Launch} (hl : l.stackTraces = false) {h : Hp} {this : Nat} {p0 : Int32} {post : Int32 → Hp → Prop} {px : String → Hp → Prop} (hw : wp_X5_order (eE E) h this p0 post px) : MT E l yX5_order cX5_order 3 (some .int) 7 171 3 68 h [.ref this, .int p0] (poI post) (px) := by
  refine MT.of (by decide) hl (Nat.le_of_ble_eq_true rfl) (fun p e s m args below meth c C => ?_)
  unfold wp_X5_order at hw
  have C : CX E p l s m args meth c cX5_order 3 "TaktLine" "order" (some .int) [] := C
  show WS E p l e (rmOf 7 3 68 171) s m args below meth c 3 (vx_MQ below (qcP E (poI post)) (xcP E (px)) args s 3 68 (bsA E)) h 0 0 0 [(0, .ref this), (1, .int p0)] []
  refine r_iload_n C dX5_order_0 rfl rfl ?_
  refine r_callS (As := [.int p0]) (st := []) C (m_X5_isOptionSet hl hw) v_X5_isOptionSet w_555 rfl ⟨leb rfl, leb rfl⟩ ⟨leb rfl, leb rfl⟩ rfl (leb rfl) dX5_order_1 (fun _ _ z => z.elim) (kpI (K := fun hK sK => WS E p l e (rmOf 7 3 68 171) s m args below meth c 3 (vx_MQ below (qcP E (poI post)) (xcP E (px)) args s 3 68 (bsA E)) hK (0 + 0) (0 + 0) (1 + 3) [(0, .ref this), (1, .int p0)] sK) (fun x1 hv => ?_))
  replace hw := hv
  clear hv
  refine r_if_ne C 17 dX5_order_4 (by decide) (fun z2 => ?_) (fun z2 => ?_)
  · replace hw := hw.2 z2
    refine r_aload_n C dX5_order_17 rfl rfl ?_
    obtain ⟨g3, hw⟩ := hw
    obtain ⟨a4, e4, hw⟩ := hw
    refine r_getA C K7 ob7 g3 (by decide) 2 (by decide) w_120 (fun _ z => z) e4 rfl dX5_order_18 ?_
    obtain ⟨g6, hw⟩ := hw
    refine r_callV (As := []) (st := []) C (m_Jx4a65c_size_8abf5 hl hw) v_Jx4a65c_size_8abf5 w_365 K1 g6 (by decide) ob1 rfl ⟨leb rfl, leb rfl⟩ ⟨leb rfl, leb rfl⟩ rfl (leb rfl) dX5_order_21 (fun _ _ z => z.elim) (kpI (K := fun hK sK => WS E p l e (rmOf 7 3 68 171) s m args below meth c 3 (vx_MQ below (qcP E (poI post)) (xcP E (px)) args s 3 68 (bsA E)) hK (0 + 0) (0 + 0) (21 + 3) [(0, .ref this), (1, .int p0)] sK) (fun x5 hv => ?_))
    replace hw := hv
    clear hv
    refine r_istore_n C dX5_order_24 rfl (by decide) [(0, .ref this), (1, .int p0), (2, .int x5)] ⟨rfl, rfl, rfl, trivial⟩ ?_
    refine r_iload_n C dX5_order_25 rfl rfl ?_
    refine r_bipush (v := (30 : Int32)) C dX5_order_26 (by decide) ?_
    refine r_icmp_lt C 41 dX5_order_28 (by decide) (fun z7 => ?_) (fun z7 => ?_)
    · replace hw := hw.1 z7
      refine r_aload_n C dX5_order_41 rfl rfl ?_
      obtain ⟨a8, e8, hw⟩ := hw
      refine r_getA C K7 ob7 g3 (by decide) 2 (by decide) w_120 (fun _ z => z) e8 rfl dX5_order_42 ?_
      refine r_new (t := 2) C K2 w_94 w_627 w_55 (by decide +kernel) ob2 (by decide) (by decide) (by decide) dX5_order_45 (fun q9 z9 => ?_)
      replace hw := hw q9 z9
      obtain ⟨h10, eh10⟩ : ∃ z, z = sN h q9 2 0 := ⟨_, rfl⟩
      replace hw := hw h10 eh10
      rw [← eh10]
      have g11 : hT h10 q9 = 2 := by rw [eh10]; exact tag_new
      refine r_dup C dX5_order_48 rfl ?_
      refine r_iload_n C dX5_order_49 rfl rfl ?_
      refine r_iload_n C dX5_order_50 rfl rfl ?_
      refine r_callI (As := [.int x5, .int p0]) (st := [.ref q9, .ref a8]) C (m_X0_init hl hw) v_X0_init w_628 rfl ⟨leb rfl, leb rfl⟩ ⟨leb rfl, leb rfl⟩ rfl (leb rfl) dX5_order_51 (fun _ _ z => z.elim) (kkV (K := fun hK sK => WS E p l e (rmOf 7 3 68 171) s m args below meth c 3 (vx_MQ below (qcP E (poI post)) (xcP E (px)) args s 3 68 (bsA E)) hK (1 + 1) (9 + 10) (51 + 3) [(0, .ref this), (1, .int p0), (2, .int x5)] sK) (fun h12 hv => ?_))
      replace hw := hv
      clear hv
      obtain ⟨g14, hw⟩ := hw
      refine r_callV (As := [.ref q9]) (st := []) C (m_Jx4a65c_add_9ea2d hl hw) v_Jx4a65c_add_9ea2d w_259 K1 g14 (by decide) ob1 rfl ⟨leb rfl, leb rfl⟩ ⟨leb rfl, leb rfl⟩ rfl (leb rfl) dX5_order_54 (fun _ _ z => z.elim) (kkI (K := fun hK sK => WS E p l e (rmOf 7 3 68 171) s m args below meth c 3 (vx_MQ below (qcP E (poI post)) (xcP E (px)) args s 3 68 (bsA E)) hK (2 + 1) (19 + 49) (54 + 3) [(0, .ref this), (1, .int p0), (2, .int x5)] sK) (fun x13 h13 hv => ?_))
      replace hw := hv
      clear hv
      refine r_pop C dX5_order_57 rfl ?_
      refine r_iload_n C dX5_order_58 rfl rfl ?_
      exact r_iret C dX5_order_59 (by decide) (by decide) ⟨_, rfl, hw⟩
    · replace hw := hw.2 z7
      exact r_throwS C thrS (text := "there are 30 cars") (by decide +kernel) dX5_order_31 dX5_order_34 dX5_order_35 dX5_order_37 dX5_order_40 (leb rfl) (leb rfl) (by decide) (by decide) hw
  · replace hw := hw.1 z2
    exact r_throwS C thrA (text := "options is out of range") (by decide +kernel) dX5_order_7 dX5_order_10 dX5_order_11 dX5_order_13 dX5_order_16 (leb rfl) (leb rfl) (by decide) (by decide) hw
theorem v_X5_order : MV yX5_order cX5_order 3 (some .int) 1 := ⟨w_624, w_622, w_623, w_37, ⟨by decide +kernel, by decide +kernel, by decide +kernel⟩⟩

def wp_X5_isLacking (h : Hp) (this : Nat) (p0 : Nat) (p1 : Int32) (post : Int32 → Prop) : Prop :=
(hT h this = 7 ∧
 (∃ a2 : Nat, hR h this 0 = some a2 ∧
 (hT h a2 = 23 ∧
 (∃ j4 : Nat, p1 = nI j4 ∧ j4 < 2147483648 ∧ j4 < hL h a2 ∧
 (∃ a5 : Nat, hR h a2 j4 = some a5 ∧
 (hT h p0 = 2 ∧
 (∃ x7 : Int32, hI h p0 1 = x7 ∧
 (hT h a5 = 4 ∧
 wp_X2_isNeededWith h a5 x7 (fun x8 =>
 (∀ J29 : Int32 → Prop, (∀ (t29_0 : Int32), (b01 t29_0 ∧
 post t29_0) → J29 t29_0) →
 (∀ J28 : Prop, ((J29 (0 : Int32)) → J28) →
 ((x8 = 0 →
 J28) ∧ (¬ (x8 = 0) →
 wp_X0_hasGoodUnit h p0 p1 (fun x12 =>
 ((x12 = 0 →
 J29 (1 : Int32)) ∧ (¬ (x12 = 0) →
 J28))))))))))))))))
set_option maxHeartbeats 4000000 in
set_option maxRecDepth 100000 in
theorem m_X5_isLacking {E : Ev} {l : Launch} (hl : l.stackTraces = false) {h : Hp} {this : Nat} {p0 : Nat} {p1 : Int32} {post : Int32 → Prop} (hw : wp_X5_isLacking h this p0 p1 post) : MT E l yX5_isLacking cX5_isLacking 3 (some .boolean) 1 22 0 0 h [.ref this, .ref p0, .int p1] (puI h post) (pxN) := by
  refine MT.of (by decide) hl (Nat.le_of_ble_eq_true rfl) (fun p e s m args below meth c C => ?_)
  unfold wp_X5_isLacking at hw
  have C : CX E p l s m args meth c cX5_isLacking 3 "TaktLine" "isLacking" (some .boolean) [] := C
  show WS E p l e (rmOf 1 0 0 22) s m args below meth c 3 (vx_MQ below (qcP E (puI h post)) (xcP E (pxN)) args s 0 0 (bsA E)) h 0 0 0 [(0, .ref this), (1, .ref p0), (2, .int p1)] []
  refine r_aload_n C dX5_isLacking_0 rfl rfl ?_
  obtain ⟨g1, hw⟩ := hw
  obtain ⟨a2, e2, hw⟩ := hw
  refine r_getA C K7 ob7 g1 (by decide) 0 (by decide) w_118 (fun _ z => z) e2 rfl dX5_isLacking_1 ?_
  refine r_iload_n C dX5_isLacking_4 rfl rfl ?_
  obtain ⟨g3, hw⟩ := hw
  obtain ⟨j4, f4, l4, k4, hw⟩ := hw
  obtain ⟨a5, e5, hw⟩ := hw
  refine a_A C ar23 g3 (by decide) (t0 := 3) rfl f4 l4 k4 e5 dX5_isLacking_5 ?_
  refine r_aload_n C dX5_isLacking_6 rfl rfl ?_
  obtain ⟨g6, hw⟩ := hw
  obtain ⟨x7, e7, hw⟩ := hw
  refine r_getI C K2 ob2 g6 (by decide) 1 (by decide) w_637 (fun _ z => z) e7 rfl dX5_isLacking_7 ?_
  obtain ⟨g9, hw⟩ := hw
  refine r_callV (As := [.int x7]) (st := []) C (m_X2_isNeededWith hl hw) v_X2_isNeededWith w_237 K4 g9 (by decide) ob4 rfl ⟨leb rfl, leb rfl⟩ ⟨leb rfl, leb rfl⟩ rfl (leb rfl) dX5_isLacking_10 (fun _ _ z => z.elim) (kpI (K := fun hK sK => WS E p l e (rmOf 1 0 0 22) s m args below meth c 3 (vx_MQ below (qcP E (puI h post)) (xcP E (pxN)) args s 0 0 (bsA E)) hK (0 + 0) (0 + 0) (10 + 3) [(0, .ref this), (1, .ref p0), (2, .int p1)] sK) (fun x8 hv => ?_))
  replace hw := hv
  clear hv
  replace hw := hw (fun (t29_0 : Int32) => WS E p l e (rmOf 1 0 0 22) s m args below meth c 3 (vx_MQ below (qcP E (puI h post)) (xcP E (pxN)) args s 0 0 (bsA E)) h 0 0 29 [] [.int t29_0]) (by
    intro t29_0 hv
    replace hw := hv
    clear hv
    obtain ⟨y10, hw⟩ := hw
    exact r_zret C y10 dX5_isLacking_29 (by decide) (by decide) ⟨_, rfl, hw, rfl⟩
    )
  replace hw := hw (WS E p l e (rmOf 1 0 0 22) s m args below meth c 3 (vx_MQ below (qcP E (puI h post)) (xcP E (pxN)) args s 0 0 (bsA E)) h 0 0 28 [] []) (by
    intro hv
    replace hw := hv
    clear hv
    refine r_iconst (v := (0 : Int32)) C dX5_isLacking_28 (by decide) ?_
    exact (r_subk hw trivial)
    )
  refine r_if_eq C 28 dX5_isLacking_13 (by decide) (fun z11 => ?_) (fun z11 => ?_)
  · replace hw := hw.1 z11
    exact (r_subk hw trivial)
  · replace hw := hw.2 z11
    refine r_aload_n C dX5_isLacking_16 rfl rfl ?_
    refine r_iload_n C dX5_isLacking_17 rfl rfl ?_
    refine r_callV (As := [.int p1]) (st := []) C (m_X0_hasGoodUnit hl hw) v_X0_hasGoodUnit w_241 K2 g6 (by decide) ob2 rfl ⟨leb rfl, leb rfl⟩ ⟨leb rfl, leb rfl⟩ rfl (leb rfl) dX5_isLacking_18 (fun _ _ z => z.elim) (kpI (K := fun hK sK => WS E p l e (rmOf 1 0 0 22) s m args below meth c 3 (vx_MQ below (qcP E (puI h post)) (xcP E (pxN)) args s 0 0 (bsA E)) hK (0 + 0) (0 + 0) (18 + 3) [(0, .ref this), (1, .ref p0), (2, .int p1)] sK) (fun x12 hv => ?_))
    replace hw := hv
    clear hv
    refine r_if_ne C 28 dX5_isLacking_21 (by decide) (fun z13 => ?_) (fun z13 => ?_)
    · replace hw := hw.2 z13
      exact (r_subk hw trivial)
    · replace hw := hw.1 z13
      refine r_iconst (v := (1 : Int32)) C dX5_isLacking_24 (by decide) ?_
      refine r_goto C 29 dX5_isLacking_25 (by decide) ?_
      exact (r_subk hw trivial)
theorem v_X5_isLacking : MV yX5_isLacking cX5_isLacking 3 (some .boolean) 2 := ⟨w_236, w_235, w_4, w_37, ⟨by decide +kernel, by decide +kernel, by decide +kernel⟩⟩

def wp_X5_lowestLackingStation (h : Hp) (this : Nat) (p0 : Nat) (post : Int32 → Prop) : Prop :=
(∀ J5 : Int32 → Int32 → Prop, (∀ (v5_2 : Int32) (v5_3 : Int32), (((10 : Int32) ≤ v5_3 →
 post v5_2) ∧ (¬ ((10 : Int32) ≤ v5_3) →
 (hT h this = 7 ∧
 wp_X5_isLacking h this p0 v5_3 (fun x2 =>
 (∀ J34 : Int32 → Prop, (∀ (v34_2 : Int32), (J5 v34_2 (v5_3 + (1 : Int32))) → J34 v34_2) →
 ((x2 = 0 →
 J34 v5_2) ∧ (¬ (x2 = 0) →
 (∃ a5 : Nat, hR h this 0 = some a5 ∧
 (hT h a5 = 23 ∧
 (∃ j7 : Nat, v5_3 = nI j7 ∧ j7 < 2147483648 ∧ j7 < hL h a5 ∧
 (∃ a8 : Nat, hR h a5 j7 = some a8 ∧
 (hT h a8 = 4 ∧
 (∃ x10 : Int32, hI h a8 0 = x10 ∧
 (∀ x11 : Int32, x11 = (if x10 < v5_2 then x10 else v5_2) →
 J34 x11)))))))))))))) → J5 v5_2 v5_3) →
 J5 (8 : Int32) (0 : Int32))
set_option maxHeartbeats 4000000 in
set_option maxRecDepth 100000 in
theorem m_X5_lowestLackingStation {E : Ev} {l : Launch} (hl : l.stackTraces = false) {h : Hp} {this : Nat} {p0 : Nat} {post : Int32 → Prop} (hw : wp_X5_lowestLackingStation h this p0 post) : MT E l yX5_lowestLackingStation cX5_lowestLackingStation 4 (some .int) 2 44 0 0 h [.ref this, .ref p0] (puI h post) (pxN) := by
  refine MT.of (by decide) hl (Nat.le_of_ble_eq_true rfl) (fun p e s m args below meth c C => ?_)
  unfold wp_X5_lowestLackingStation at hw
  have C : CX E p l s m args meth c cX5_lowestLackingStation 4 "TaktLine" "lowestLackingStation" (some .int) [] := C
  show WS E p l e (rmOf 2 0 0 44) s m args below meth c 4 (vx_MQ below (qcP E (puI h post)) (xcP E (pxN)) args s 0 0 (bsA E)) h 0 0 0 [(0, .ref this), (1, .ref p0)] []
  refine r_bipush (v := (8 : Int32)) C dX5_lowestLackingStation_0 (by decide) ?_
  refine r_istore_n C dX5_lowestLackingStation_2 rfl (by decide) [(0, .ref this), (1, .ref p0), (2, .int (8 : Int32))] ⟨rfl, rfl, rfl, trivial⟩ ?_
  refine r_iconst (v := (0 : Int32)) C dX5_lowestLackingStation_3 (by decide) ?_
  refine r_istore_n C dX5_lowestLackingStation_4 rfl (by decide) [(0, .ref this), (1, .ref p0), (2, .int (8 : Int32)), (3, .int (0 : Int32))] ⟨rfl, rfl, rfl, rfl, trivial⟩ ?_
  replace hw := hw (fun (v5_2 : Int32) (v5_3 : Int32) => WS E p l e (rmOf 2 0 0 44) s m args below meth c 4 (vx_MQ below (qcP E (puI h post)) (xcP E (pxN)) args s 0 0 (bsA E)) h 0 0 5 [(0, .ref this), (1, .ref p0), (2, .int v5_2), (3, .int v5_3)] []) (by
    intro v5_2 v5_3 hv
    replace hw := hv
    clear hv
    refine r_iload_n C dX5_lowestLackingStation_5 rfl rfl ?_
    refine r_bipush (v := (10 : Int32)) C dX5_lowestLackingStation_6 (by decide) ?_
    refine r_icmp_ge C 40 dX5_lowestLackingStation_8 (by decide) (fun z1 => ?_) (fun z1 => ?_)
    · replace hw := hw.1 z1
      refine r_iload_n C dX5_lowestLackingStation_40 rfl rfl ?_
      exact r_iret C dX5_lowestLackingStation_41 (by decide) (by decide) ⟨_, rfl, hw, rfl⟩
    · replace hw := hw.2 z1
      refine r_aload_n C dX5_lowestLackingStation_11 rfl rfl ?_
      refine r_aload_n C dX5_lowestLackingStation_12 rfl rfl ?_
      refine r_iload_n C dX5_lowestLackingStation_13 rfl rfl ?_
      obtain ⟨g3, hw⟩ := hw
      refine r_callV (As := [.ref p0, .int v5_3]) (st := []) C (m_X5_isLacking hl hw) v_X5_isLacking w_233 K7 g3 (by decide) ob7 rfl ⟨leb rfl, leb rfl⟩ ⟨leb rfl, leb rfl⟩ rfl (leb rfl) dX5_lowestLackingStation_14 (fun _ _ z => z.elim) (kpI (K := fun hK sK => WS E p l e (rmOf 2 0 0 44) s m args below meth c 4 (vx_MQ below (qcP E (puI h post)) (xcP E (pxN)) args s 0 0 (bsA E)) hK (0 + 0) (0 + 0) (14 + 3) [(0, .ref this), (1, .ref p0), (2, .int v5_2), (3, .int v5_3)] sK) (fun x2 hv => ?_))
      replace hw := hv
      clear hv
      replace hw := hw (fun (v34_2 : Int32) => WS E p l e (rmOf 2 0 0 44) s m args below meth c 4 (vx_MQ below (qcP E (puI h post)) (xcP E (pxN)) args s 0 0 (bsA E)) h 0 0 34 [(0, .ref this), (1, .ref p0), (2, .int v34_2), (3, .int v5_3)] []) (by
        intro v34_2 hv
        replace hw := hv
        clear hv
        refine r_iinc C (v5_3 + (1 : Int32)) dX5_lowestLackingStation_34 rfl rfl (by decide) [(0, .ref this), (1, .ref p0), (2, .int v34_2), (3, .int (v5_3 + (1 : Int32)))] ⟨rfl, rfl, rfl, rfl, trivial⟩ ?_
        refine r_goto C 5 dX5_lowestLackingStation_37 (by decide) ?_
        exact (r_subk hw ⟨rfl, rfl, rfl, rfl, trivial⟩)
        )
      refine r_if_eq C 34 dX5_lowestLackingStation_17 (by decide) (fun z4 => ?_) (fun z4 => ?_)
      · replace hw := hw.1 z4
        exact (r_subk hw ⟨rfl, rfl, rfl, rfl, trivial⟩)
      · replace hw := hw.2 z4
        refine r_iload_n C dX5_lowestLackingStation_20 rfl rfl ?_
        refine r_aload_n C dX5_lowestLackingStation_21 rfl rfl ?_
        obtain ⟨a5, e5, hw⟩ := hw
        refine r_getA C K7 ob7 g3 (by decide) 0 (by decide) w_118 (fun _ z => z) e5 rfl dX5_lowestLackingStation_22 ?_
        refine r_iload_n C dX5_lowestLackingStation_25 rfl rfl ?_
        obtain ⟨g6, hw⟩ := hw
        obtain ⟨j7, f7, l7, k7, hw⟩ := hw
        obtain ⟨a8, e8, hw⟩ := hw
        refine a_A C ar23 g6 (by decide) (t0 := 3) rfl f7 l7 k7 e8 dX5_lowestLackingStation_26 ?_
        obtain ⟨g9, hw⟩ := hw
        obtain ⟨x10, e10, hw⟩ := hw
        refine r_getI C K4 ob4 g9 (by decide) 0 (by decide) w_102 (fun _ z => z) e10 rfl dX5_lowestLackingStation_27 ?_
        refine r_mmin C w_245 w_246 w_50 w_247 (leb rfl) (leb rfl) (by decide) (by decide) dX5_lowestLackingStation_30 ?_
        obtain ⟨x11, e11⟩ : ∃ z : Int32, z = (if x10 < v5_2 then x10 else v5_2) := ⟨_, rfl⟩
        replace hw := hw x11 e11
        rw [← e11]
        refine r_istore_n C dX5_lowestLackingStation_33 rfl (by decide) [(0, .ref this), (1, .ref p0), (2, .int x11), (3, .int v5_3)] ⟨rfl, rfl, rfl, rfl, trivial⟩ ?_
        exact (r_subk hw ⟨rfl, rfl, rfl, rfl, trivial⟩)
    )
  exact (r_subk hw ⟨rfl, rfl, rfl, rfl, trivial⟩)
theorem v_X5_lowestLackingStation : MV yX5_lowestLackingStation cX5_lowestLackingStation 4 (some .int) 1 := ⟨w_232, w_231, w_3, w_37, ⟨by decide +kernel, by decide +kernel, by decide +kernel⟩⟩

def wp_X5_isStation (h : Hp) (p0 : Int32) (post : Int32 → Prop) : Prop :=
(∀ J15 : Int32 → Prop, (∀ (t15_0 : Int32), (b01 t15_0 ∧
 post t15_0) → J15 t15_0) →
 (∀ J14 : Prop, ((J15 (0 : Int32)) → J14) →
 ((p0 < 0 →
 J14) ∧ (¬ (p0 < 0) →
 (((8 : Int32) ≤ p0 →
 J14) ∧ (¬ ((8 : Int32) ≤ p0) →
 J15 (1 : Int32)))))))
set_option maxHeartbeats 4000000 in
set_option maxRecDepth 100000 in
theorem m_X5_isStation {E : Ev} {l : Launch} (hl : l.stackTraces = false) {h : Hp} {p0 : Int32} {post : Int32 → Prop} (hw : wp_X5_isStation h p0 post) : MT E l yX5_isStation cX5_isStation 1 (some .boolean) 0 0 0 0 h [.int p0] (puI h post) (pxN) := by
  refine MT.of (by decide) hl (Nat.le_of_ble_eq_true rfl) (fun p e s m args below meth c C => ?_)
  unfold wp_X5_isStation at hw
  have C : CX E p l s m args meth c cX5_isStation 1 "TaktLine" "isStation" (some .boolean) [] := C
  show WS E p l e (rmOf 0 0 0 0) s m args below meth c 1 (vx_MQ below (qcP E (puI h post)) (xcP E (pxN)) args s 0 0 (bsA E)) h 0 0 0 [(0, .int p0)] []
  refine r_iload_n C dX5_isStation_0 rfl rfl ?_
  replace hw := hw (fun (t15_0 : Int32) => WS E p l e (rmOf 0 0 0 0) s m args below meth c 1 (vx_MQ below (qcP E (puI h post)) (xcP E (pxN)) args s 0 0 (bsA E)) h 0 0 15 [] [.int t15_0]) (by
    intro t15_0 hv
    replace hw := hv
    clear hv
    obtain ⟨y1, hw⟩ := hw
    exact r_zret C y1 dX5_isStation_15 (by decide) (by decide) ⟨_, rfl, hw, rfl⟩
    )
  replace hw := hw (WS E p l e (rmOf 0 0 0 0) s m args below meth c 1 (vx_MQ below (qcP E (puI h post)) (xcP E (pxN)) args s 0 0 (bsA E)) h 0 0 14 [] []) (by
    intro hv
    replace hw := hv
    clear hv
    refine r_iconst (v := (0 : Int32)) C dX5_isStation_14 (by decide) ?_
    exact (r_subk hw trivial)
    )
  refine r_if_lt C 14 dX5_isStation_1 (by decide) (fun z2 => ?_) (fun z2 => ?_)
  · replace hw := hw.1 z2
    exact (r_subk hw trivial)
  · replace hw := hw.2 z2
    refine r_iload_n C dX5_isStation_4 rfl rfl ?_
    refine r_bipush (v := (8 : Int32)) C dX5_isStation_5 (by decide) ?_
    refine r_icmp_ge C 14 dX5_isStation_7 (by decide) (fun z3 => ?_) (fun z3 => ?_)
    · replace hw := hw.1 z3
      exact (r_subk hw trivial)
    · replace hw := hw.2 z3
      refine r_iconst (v := (1 : Int32)) C dX5_isStation_10 (by decide) ?_
      refine r_goto C 15 dX5_isStation_11 (by decide) ?_
      exact (r_subk hw trivial)
theorem v_X5_isStation : MS yX5_isStation cX5_isStation 1 (some .boolean) 1 := ⟨w_258, w_257, w_37, ⟨by decide +kernel, by decide +kernel, by decide +kernel⟩⟩

def wp_X5_clearPlaceOf (h : Hp) (this : Nat) (p0 : Nat) (post : Hp → Prop) : Prop :=
(hT h p0 = 2 ∧
 (∃ x2 : Int32, hI h p0 3 = x2 ∧
 (∀ J28 : Hp → Prop, (∀ (h28_ : Hp), (post h28_) → J28 h28_) →
 ((x2 = (1 : Int32) →
 (∃ x4 : Int32, hI h p0 4 = x4 ∧
 wp_X5_isStation h x4 (fun x5 =>
 ((x5 = 0 →
 J28 h) ∧ (¬ (x5 = 0) →
 (hT h this = 7 ∧
 (∃ a8 : Nat, hR h this 6 = some a8 ∧
 (∃ x9 : Int32, hI h p0 4 = x9 ∧
 (hT h a8 = 25 ∧
 (∃ j11 : Nat, x9 = nI j11 ∧ j11 < 2147483648 ∧ j11 < hL h a8 ∧
 (∀ h12, h12 = sR h a8 j11 none →
 J28 h12))))))))))) ∧ (¬ (x2 = (1 : Int32)) →
 J28 h)))))
set_option maxHeartbeats 4000000 in
set_option maxRecDepth 100000 in
theorem m_X5_clearPlaceOf {E : Ev} {l : Launch} (hl : l.stackTraces = false) {h : Hp} {this : Nat} {p0 : Nat} {post : Hp → Prop} (hw : wp_X5_clearPlaceOf h this p0 post) : MT E l yX5_clearPlaceOf cX5_clearPlaceOf 2 none 1 20 0 0 h [.ref this, .ref p0] (poV post) (pxN) := by
  refine MT.of (by decide) hl (Nat.le_of_ble_eq_true rfl) (fun p e s m args below meth c C => ?_)
  unfold wp_X5_clearPlaceOf at hw
  have C : CX E p l s m args meth c cX5_clearPlaceOf 2 "TaktLine" "clearPlaceOf" none [] := C
  show WS E p l e (rmOf 1 0 0 20) s m args below meth c 2 (vx_MQ below (qcP E (poV post)) (xcP E (pxN)) args s 0 0 (bsA E)) h 0 0 0 [(0, .ref this), (1, .ref p0)] []
  refine r_aload_n C dX5_clearPlaceOf_0 rfl rfl ?_
  obtain ⟨g1, hw⟩ := hw
  obtain ⟨x2, e2, hw⟩ := hw
  refine r_getI C K2 ob2 g1 (by decide) 3 (by decide) w_641 (fun _ z => z) e2 rfl dX5_clearPlaceOf_1 ?_
  refine r_iconst (v := (1 : Int32)) C dX5_clearPlaceOf_4 (by decide) ?_
  replace hw := hw (fun (h28_ : Hp) => WS E p l e (rmOf 1 0 0 20) s m args below meth c 2 (vx_MQ below (qcP E (poV post)) (xcP E (pxN)) args s 0 0 (bsA E)) h28_ 0 0 28 [] []) (by
    intro h28_ hv
    replace hw := hv
    clear hv
    exact r_vret C dX5_clearPlaceOf_28 (by decide) (by decide) ⟨rfl, hw⟩
    )
  refine r_icmp_ne C 28 dX5_clearPlaceOf_5 (by decide) (fun z3 => ?_) (fun z3 => ?_)
  · replace hw := hw.2 z3
    exact (r_subk hw trivial)
  · replace hw := hw.1 z3
    refine r_aload_n C dX5_clearPlaceOf_8 rfl rfl ?_
    obtain ⟨x4, e4, hw⟩ := hw
    refine r_getI C K2 ob2 g1 (by decide) 4 (by decide) w_643 (fun _ z => z) e4 rfl dX5_clearPlaceOf_9 ?_
    refine r_callS (As := [.int x4]) (st := []) C (m_X5_isStation hl hw) v_X5_isStation w_256 rfl ⟨leb rfl, leb rfl⟩ ⟨leb rfl, leb rfl⟩ rfl (leb rfl) dX5_clearPlaceOf_12 (fun _ _ z => z.elim) (kpI (K := fun hK sK => WS E p l e (rmOf 1 0 0 20) s m args below meth c 2 (vx_MQ below (qcP E (poV post)) (xcP E (pxN)) args s 0 0 (bsA E)) hK (0 + 0) (0 + 0) (12 + 3) [(0, .ref this), (1, .ref p0)] sK) (fun x5 hv => ?_))
    replace hw := hv
    clear hv
    refine r_if_eq C 28 dX5_clearPlaceOf_15 (by decide) (fun z6 => ?_) (fun z6 => ?_)
    · replace hw := hw.1 z6
      exact (r_subk hw trivial)
    · replace hw := hw.2 z6
      refine r_aload_n C dX5_clearPlaceOf_18 rfl rfl ?_
      obtain ⟨g7, hw⟩ := hw
      obtain ⟨a8, e8, hw⟩ := hw
      refine r_getA C K7 ob7 g7 (by decide) 6 (by decide) w_124 (fun _ z => z) e8 rfl dX5_clearPlaceOf_19 ?_
      refine r_aload_n C dX5_clearPlaceOf_22 rfl rfl ?_
      obtain ⟨x9, e9, hw⟩ := hw
      refine r_getI C K2 ob2 g1 (by decide) 4 (by decide) w_643 (fun _ z => z) e9 rfl dX5_clearPlaceOf_23 ?_
      refine r_null C dX5_clearPlaceOf_26 ?_
      obtain ⟨g10, hw⟩ := hw
      obtain ⟨j11, f11, l11, k11, hw⟩ := hw
      obtain ⟨h12, eh12⟩ : ∃ z, z = sR h a8 j11 none := ⟨_, rfl⟩
      replace hw := hw h12 eh12
      refine s_N C (fun f => ar25) g10 (by decide) (t0 := 5) rfl f11 l11 k11 dX5_clearPlaceOf_27 eh12 ?_
      exact (r_subk hw trivial)
theorem v_X5_clearPlaceOf : MV yX5_clearPlaceOf cX5_clearPlaceOf 2 none 1 := ⟨w_255, w_254, w_6, w_37, ⟨by decide +kernel, by decide +kernel, by decide +kernel⟩⟩

def wp_X5_enterLane (dE : Nat) (h : Hp) (this : Nat) (p0 : Nat) (p1 : Int32) (post : Hp → Prop) : Prop :=
(hT h this = 7 ∧
 wp_X5_clearPlaceOf h this p0 (fun h1 =>
 (hT h1 p0 = 2 ∧
 (∀ h4, h4 = sI h1 p0 3 (2 : Int32) →
 (∀ h6, h6 = sI h4 p0 4 p1 →
 (hT h6 this = 7 ∧
 (∃ a8 : Nat, hR h6 this 4 = some a8 ∧
 (hT h6 a8 = 1 ∧
 wp_Jx4a65c_add_9ea2d dE 1 49 h6 a8 p0 (fun x9 h9 =>
 post h9)))))))))
set_option maxHeartbeats 4000000 in
set_option maxRecDepth 100000 in
theorem m_X5_enterLane {E : Ev} {l : Launch} (hl : l.stackTraces = false) {h : Hp} {this : Nat} {p0 : Nat} {p1 : Int32} {post : Hp → Prop} (hw : wp_X5_enterLane (eE E) h this p0 p1 post) : MT E l yX5_enterLane cX5_enterLane 3 none 7 171 1 49 h [.ref this, .ref p0, .int p1] (poV post) (pxN) := by
  refine MT.of (by decide) hl (Nat.le_of_ble_eq_true rfl) (fun p e s m args below meth c C => ?_)
  unfold wp_X5_enterLane at hw
  have C : CX E p l s m args meth c cX5_enterLane 3 "TaktLine" "enterLane" none [] := C
  show WS E p l e (rmOf 7 1 49 171) s m args below meth c 3 (vx_MQ below (qcP E (poV post)) (xcP E (pxN)) args s 1 49 (bsA E)) h 0 0 0 [(0, .ref this), (1, .ref p0), (2, .int p1)] []
  refine r_aload_n C dX5_enterLane_0 rfl rfl ?_
  refine r_aload_n C dX5_enterLane_1 rfl rfl ?_
  obtain ⟨g2, hw⟩ := hw
  refine r_callV (As := [.ref p0]) (st := []) C (m_X5_clearPlaceOf hl hw) v_X5_clearPlaceOf w_252 K7 g2 (by decide) ob7 rfl ⟨leb rfl, leb rfl⟩ ⟨leb rfl, leb rfl⟩ rfl (leb rfl) dX5_enterLane_2 (fun _ _ z => z.elim) (kkV (K := fun hK sK => WS E p l e (rmOf 7 1 49 171) s m args below meth c 3 (vx_MQ below (qcP E (poV post)) (xcP E (pxN)) args s 1 49 (bsA E)) hK (0 + 0) (0 + 0) (2 + 3) [(0, .ref this), (1, .ref p0), (2, .int p1)] sK) (fun h1 hv => ?_))
  replace hw := hv
  clear hv
  refine r_aload_n C dX5_enterLane_5 rfl rfl ?_
  refine r_iconst (v := (2 : Int32)) C dX5_enterLane_6 (by decide) ?_
  obtain ⟨g3, hw⟩ := hw
  obtain ⟨h4, eh4⟩ : ∃ z, z = sI h1 p0 3 (2 : Int32) := ⟨_, rfl⟩
  replace hw := hw h4 eh4
  refine p_I C K2 ob2 g3 (by decide) 3 (by decide) w_641 (fun _ z => z) rfl (by decide +kernel) (Nat.le_of_ble_eq_true rfl) rfl dX5_enterLane_7 eh4 ?_
  refine r_aload_n C dX5_enterLane_10 rfl rfl ?_
  refine r_iload_n C dX5_enterLane_11 rfl rfl ?_
  have g5 : hT h4 p0 = 2 := by rw [eh4]; exact g3
  obtain ⟨h6, eh6⟩ : ∃ z, z = sI h4 p0 4 p1 := ⟨_, rfl⟩
  replace hw := hw h6 eh6
  refine p_I C K2 ob2 g5 (by decide) 4 (by decide) w_643 (fun _ z => z) rfl (by decide +kernel) (Nat.le_of_ble_eq_true rfl) rfl dX5_enterLane_12 eh6 ?_
  refine r_aload_n C dX5_enterLane_15 rfl rfl ?_
  obtain ⟨g7, hw⟩ := hw
  obtain ⟨a8, e8, hw⟩ := hw
  refine r_getA C K7 ob7 g7 (by decide) 4 (by decide) w_122 (fun _ z => z) e8 rfl dX5_enterLane_16 ?_
  refine r_aload_n C dX5_enterLane_19 rfl rfl ?_
  obtain ⟨g10, hw⟩ := hw
  refine r_callV (As := [.ref p0]) (st := []) C (m_Jx4a65c_add_9ea2d hl hw) v_Jx4a65c_add_9ea2d w_259 K1 g10 (by decide) ob1 rfl ⟨leb rfl, leb rfl⟩ ⟨leb rfl, leb rfl⟩ rfl (leb rfl) dX5_enterLane_20 (fun _ _ z => z.elim) (kkI (K := fun hK sK => WS E p l e (rmOf 7 1 49 171) s m args below meth c 3 (vx_MQ below (qcP E (poV post)) (xcP E (pxN)) args s 1 49 (bsA E)) hK (0 + 1) (0 + 49) (20 + 3) [(0, .ref this), (1, .ref p0), (2, .int p1)] sK) (fun x9 h9 hv => ?_))
  replace hw := hv
  clear hv
  refine r_pop C dX5_enterLane_23 rfl ?_
  exact r_vret C dX5_enterLane_24 (by decide) (by decide) ⟨rfl, hw⟩
theorem v_X5_enterLane : MV yX5_enterLane cX5_enterLane 3 none 2 := ⟨w_251, w_250, w_5, w_37, ⟨by decide +kernel, by decide +kernel, by decide +kernel⟩⟩

def wp_X5_mustBeFlashedAgain (h : Hp) (p0 : Nat) (post : Int32 → Prop) : Prop :=
(hT h p0 = 2 ∧
 (∃ x2 : Int32, hI h p0 4 = x2 ∧
 (∀ J37 : Int32 → Prop, (∀ (t37_0 : Int32), (b01 t37_0 ∧
 post t37_0) → J37 t37_0) →
 (∀ J32 : Prop, ((J37 (1 : Int32)) → J32) →
 (∀ J16 : Prop, ((∃ x4 : Int32, hI h p0 4 = x4 ∧
 (∀ J36 : Prop, ((J37 (0 : Int32)) → J36) →
 ((x4 = (7 : Int32) →
 (∃ x6 : Int32, hI h p0 6 = x6 ∧
 ((x6 = 0 →
 J32) ∧ (¬ (x6 = 0) →
 J36)))) ∧ (¬ (x4 = (7 : Int32)) →
 J36)))) → J16) →
 ((x2 = (6 : Int32) →
 (∃ x9 : Int32, hI h p0 7 = x9 ∧
 ((x9 = 0 →
 J16) ∧ (¬ (x9 = 0) →
 J32)))) ∧ (¬ (x2 = (6 : Int32)) →
 J16)))))))
set_option maxHeartbeats 4000000 in
set_option maxRecDepth 100000 in
theorem m_X5_mustBeFlashedAgain {E : Ev} {l : Launch} (hl : l.stackTraces = false) {h : Hp} {p0 : Nat} {post : Int32 → Prop} (hw : wp_X5_mustBeFlashedAgain h p0 post) : MT E l yX5_mustBeFlashedAgain cX5_mustBeFlashedAgain 1 (some .boolean) 0 0 0 0 h [.ref p0] (puI h post) (pxN) := by
  refine MT.of (by decide) hl (Nat.le_of_ble_eq_true rfl) (fun p e s m args below meth c C => ?_)
  unfold wp_X5_mustBeFlashedAgain at hw
  have C : CX E p l s m args meth c cX5_mustBeFlashedAgain 1 "TaktLine" "mustBeFlashedAgain" (some .boolean) [] := C
  show WS E p l e (rmOf 0 0 0 0) s m args below meth c 1 (vx_MQ below (qcP E (puI h post)) (xcP E (pxN)) args s 0 0 (bsA E)) h 0 0 0 [(0, .ref p0)] []
  refine r_aload_n C dX5_mustBeFlashedAgain_0 rfl rfl ?_
  obtain ⟨g1, hw⟩ := hw
  obtain ⟨x2, e2, hw⟩ := hw
  refine r_getI C K2 ob2 g1 (by decide) 4 (by decide) w_643 (fun _ z => z) e2 rfl dX5_mustBeFlashedAgain_1 ?_
  refine r_bipush (v := (6 : Int32)) C dX5_mustBeFlashedAgain_4 (by decide) ?_
  replace hw := hw (fun (t37_0 : Int32) => WS E p l e (rmOf 0 0 0 0) s m args below meth c 1 (vx_MQ below (qcP E (puI h post)) (xcP E (pxN)) args s 0 0 (bsA E)) h 0 0 37 [] [.int t37_0]) (by
    intro t37_0 hv
    replace hw := hv
    clear hv
    obtain ⟨y3, hw⟩ := hw
    exact r_zret C y3 dX5_mustBeFlashedAgain_37 (by decide) (by decide) ⟨_, rfl, hw, rfl⟩
    )
  replace hw := hw (WS E p l e (rmOf 0 0 0 0) s m args below meth c 1 (vx_MQ below (qcP E (puI h post)) (xcP E (pxN)) args s 0 0 (bsA E)) h 0 0 32 [] []) (by
    intro hv
    replace hw := hv
    clear hv
    refine r_iconst (v := (1 : Int32)) C dX5_mustBeFlashedAgain_32 (by decide) ?_
    refine r_goto C 37 dX5_mustBeFlashedAgain_33 (by decide) ?_
    exact (r_subk hw trivial)
    )
  replace hw := hw (WS E p l e (rmOf 0 0 0 0) s m args below meth c 1 (vx_MQ below (qcP E (puI h post)) (xcP E (pxN)) args s 0 0 (bsA E)) h 0 0 16 [(0, .ref p0)] []) (by
    intro hv
    replace hw := hv
    clear hv
    refine r_aload_n C dX5_mustBeFlashedAgain_16 rfl rfl ?_
    obtain ⟨x4, e4, hw⟩ := hw
    refine r_getI C K2 ob2 g1 (by decide) 4 (by decide) w_643 (fun _ z => z) e4 rfl dX5_mustBeFlashedAgain_17 ?_
    refine r_bipush (v := (7 : Int32)) C dX5_mustBeFlashedAgain_20 (by decide) ?_
    replace hw := hw (WS E p l e (rmOf 0 0 0 0) s m args below meth c 1 (vx_MQ below (qcP E (puI h post)) (xcP E (pxN)) args s 0 0 (bsA E)) h 0 0 36 [] []) (by
      intro hv
      replace hw := hv
      clear hv
      refine r_iconst (v := (0 : Int32)) C dX5_mustBeFlashedAgain_36 (by decide) ?_
      exact (r_subk hw trivial)
      )
    refine r_icmp_ne C 36 dX5_mustBeFlashedAgain_22 (by decide) (fun z5 => ?_) (fun z5 => ?_)
    · replace hw := hw.2 z5
      exact (r_subk hw trivial)
    · replace hw := hw.1 z5
      refine r_aload_n C dX5_mustBeFlashedAgain_25 rfl rfl ?_
      obtain ⟨x6, e6, hw⟩ := hw
      refine r_getI C K2 ob2 g1 (by decide) 6 (by decide) w_647 (fun _ z => z) e6 rfl dX5_mustBeFlashedAgain_26 ?_
      refine r_if_ne C 36 dX5_mustBeFlashedAgain_29 (by decide) (fun z7 => ?_) (fun z7 => ?_)
      · replace hw := hw.2 z7
        exact (r_subk hw trivial)
      · replace hw := hw.1 z7
        exact (r_subk hw trivial)
    )
  refine r_icmp_ne C 16 dX5_mustBeFlashedAgain_6 (by decide) (fun z8 => ?_) (fun z8 => ?_)
  · replace hw := hw.2 z8
    exact (r_subk hw ⟨rfl, trivial⟩)
  · replace hw := hw.1 z8
    refine r_aload_n C dX5_mustBeFlashedAgain_9 rfl rfl ?_
    obtain ⟨x9, e9, hw⟩ := hw
    refine r_getI C K2 ob2 g1 (by decide) 7 (by decide) w_649 (fun _ z => z) e9 rfl dX5_mustBeFlashedAgain_10 ?_
    refine r_if_ne C 32 dX5_mustBeFlashedAgain_13 (by decide) (fun z10 => ?_) (fun z10 => ?_)
    · replace hw := hw.2 z10
      exact (r_subk hw trivial)
    · replace hw := hw.1 z10
      exact (r_subk hw ⟨rfl, trivial⟩)
theorem v_X5_mustBeFlashedAgain : MS yX5_mustBeFlashedAgain cX5_mustBeFlashedAgain 1 (some .boolean) 1 := ⟨w_316, w_315, w_37, ⟨by decide +kernel, by decide +kernel, by decide +kernel⟩⟩

def wp_X5_sendBack (dE : Nat) (h : Hp) (this : Nat) (p0 : Nat) (post : Hp → Prop) : Prop :=
(hT h this = 7 ∧
 wp_X5_lowestLackingStation h this p0 (fun x1 =>
 (hT h p0 = 2 ∧
 (∃ x4 : Int32, hI h p0 4 = x4 ∧
 (∀ J41 : Hp → Prop, (∀ (h41_ : Hp), (post h41_) → J41 h41_) →
 ((x4 ≤ x1 →
 wp_X5_mustBeFlashedAgain h p0 (fun x6 =>
 ((x6 = 0 →
 J41 h) ∧ (¬ (x6 = 0) →
 wp_X5_enterLane dE h this p0 (5 : Int32) (fun h8 =>
 (hT h8 p0 = 2 ∧
 (∀ h10, h10 = sI h8 p0 7 (0 : Int32) →
 J41 h10))))))) ∧ (¬ (x4 ≤ x1) →
 wp_X5_enterLane dE h this p0 x1 (fun h11 =>
 J41 h11))))))))
set_option maxHeartbeats 4000000 in
set_option maxRecDepth 100000 in
theorem m_X5_sendBack {E : Ev} {l : Launch} (hl : l.stackTraces = false) {h : Hp} {this : Nat} {p0 : Nat} {post : Hp → Prop} (hw : wp_X5_sendBack (eE E) h this p0 post) : MT E l yX5_sendBack cX5_sendBack 3 none 8 193 1 49 h [.ref this, .ref p0] (poV post) (pxN) := by
  refine MT.of (by decide) hl (Nat.le_of_ble_eq_true rfl) (fun p e s m args below meth c C => ?_)
  unfold wp_X5_sendBack at hw
  have C : CX E p l s m args meth c cX5_sendBack 3 "TaktLine" "sendBack" none [] := C
  show WS E p l e (rmOf 8 1 49 193) s m args below meth c 3 (vx_MQ below (qcP E (poV post)) (xcP E (pxN)) args s 1 49 (bsA E)) h 0 0 0 [(0, .ref this), (1, .ref p0)] []
  refine r_aload_n C dX5_sendBack_0 rfl rfl ?_
  refine r_aload_n C dX5_sendBack_1 rfl rfl ?_
  obtain ⟨g2, hw⟩ := hw
  refine r_callV (As := [.ref p0]) (st := []) C (m_X5_lowestLackingStation hl hw) v_X5_lowestLackingStation w_229 K7 g2 (by decide) ob7 rfl ⟨leb rfl, leb rfl⟩ ⟨leb rfl, leb rfl⟩ rfl (leb rfl) dX5_sendBack_2 (fun _ _ z => z.elim) (kpI (K := fun hK sK => WS E p l e (rmOf 8 1 49 193) s m args below meth c 3 (vx_MQ below (qcP E (poV post)) (xcP E (pxN)) args s 1 49 (bsA E)) hK (0 + 0) (0 + 0) (2 + 3) [(0, .ref this), (1, .ref p0)] sK) (fun x1 hv => ?_))
  replace hw := hv
  clear hv
  refine r_istore_n C dX5_sendBack_5 rfl (by decide) [(0, .ref this), (1, .ref p0), (2, .int x1)] ⟨rfl, rfl, rfl, trivial⟩ ?_
  refine r_iload_n C dX5_sendBack_6 rfl rfl ?_
  refine r_aload_n C dX5_sendBack_7 rfl rfl ?_
  obtain ⟨g3, hw⟩ := hw
  obtain ⟨x4, e4, hw⟩ := hw
  refine r_getI C K2 ob2 g3 (by decide) 4 (by decide) w_643 (fun _ z => z) e4 rfl dX5_sendBack_8 ?_
  replace hw := hw (fun (h41_ : Hp) => WS E p l e (rmOf 8 1 49 193) s m args below meth c 3 (vx_MQ below (qcP E (poV post)) (xcP E (pxN)) args s 1 49 (bsA E)) h41_ 1 49 41 [] []) (by
    intro h41_ hv
    replace hw := hv
    clear hv
    exact r_vret C dX5_sendBack_41 (by decide) (by decide) ⟨rfl, hw⟩
    )
  refine r_icmp_ge C 23 dX5_sendBack_11 (by decide) (fun z5 => ?_) (fun z5 => ?_)
  · replace hw := hw.1 z5
    refine r_aload_n C dX5_sendBack_23 rfl rfl ?_
    refine r_callS (As := [.ref p0]) (st := []) C (m_X5_mustBeFlashedAgain hl hw) v_X5_mustBeFlashedAgain w_314 rfl ⟨leb rfl, leb rfl⟩ ⟨leb rfl, leb rfl⟩ rfl (leb rfl) dX5_sendBack_24 (fun _ _ z => z.elim) (kpI (K := fun hK sK => WS E p l e (rmOf 8 1 49 193) s m args below meth c 3 (vx_MQ below (qcP E (poV post)) (xcP E (pxN)) args s 1 49 (bsA E)) hK (0 + 0) (0 + 0) (24 + 3) [(0, .ref this), (1, .ref p0), (2, .int x1)] sK) (fun x6 hv => ?_))
    replace hw := hv
    clear hv
    refine r_if_eq C 41 dX5_sendBack_27 (by decide) (fun z7 => ?_) (fun z7 => ?_)
    · replace hw := hw.1 z7
      exact (r_widen (by decide) (by decide) (r_subk hw trivial))
    · replace hw := hw.2 z7
      refine r_aload_n C dX5_sendBack_30 rfl rfl ?_
      refine r_aload_n C dX5_sendBack_31 rfl rfl ?_
      refine r_iconst (v := (5 : Int32)) C dX5_sendBack_32 (by decide) ?_
      refine r_callV (As := [.ref p0, .int (5 : Int32)]) (st := []) C (m_X5_enterLane hl hw) v_X5_enterLane w_248 K7 g2 (by decide) ob7 rfl ⟨leb rfl, leb rfl⟩ ⟨leb rfl, leb rfl⟩ rfl (leb rfl) dX5_sendBack_33 (fun _ _ z => z.elim) (kkV (K := fun hK sK => WS E p l e (rmOf 8 1 49 193) s m args below meth c 3 (vx_MQ below (qcP E (poV post)) (xcP E (pxN)) args s 1 49 (bsA E)) hK (0 + 1) (0 + 49) (33 + 3) [(0, .ref this), (1, .ref p0), (2, .int x1)] sK) (fun h8 hv => ?_))
      replace hw := hv
      clear hv
      refine r_aload_n C dX5_sendBack_36 rfl rfl ?_
      refine r_iconst (v := (0 : Int32)) C dX5_sendBack_37 (by decide) ?_
      obtain ⟨g9, hw⟩ := hw
      obtain ⟨h10, eh10⟩ : ∃ z, z = sI h8 p0 7 (0 : Int32) := ⟨_, rfl⟩
      replace hw := hw h10 eh10
      refine p_B C K2 ob2 g9 (by decide) 7 (by decide) w_649 (fun _ z => z) rfl (Or.inl rfl) (by decide +kernel) (Nat.le_of_ble_eq_true rfl) rfl dX5_sendBack_38 eh10 ?_
      exact (r_subk hw trivial)
  · replace hw := hw.2 z5
    refine r_aload_n C dX5_sendBack_14 rfl rfl ?_
    refine r_aload_n C dX5_sendBack_15 rfl rfl ?_
    refine r_iload_n C dX5_sendBack_16 rfl rfl ?_
    refine r_callV (As := [.ref p0, .int x1]) (st := []) C (m_X5_enterLane hl hw) v_X5_enterLane w_248 K7 g2 (by decide) ob7 rfl ⟨leb rfl, leb rfl⟩ ⟨leb rfl, leb rfl⟩ rfl (leb rfl) dX5_sendBack_17 (fun _ _ z => z.elim) (kkV (K := fun hK sK => WS E p l e (rmOf 8 1 49 193) s m args below meth c 3 (vx_MQ below (qcP E (poV post)) (xcP E (pxN)) args s 1 49 (bsA E)) hK (0 + 1) (0 + 49) (17 + 3) [(0, .ref this), (1, .ref p0), (2, .int x1)] sK) (fun h11 hv => ?_))
    replace hw := hv
    clear hv
    refine r_goto C 41 dX5_sendBack_20 (by decide) ?_
    exact (r_subk hw trivial)
theorem v_X5_sendBack : MV yX5_sendBack cX5_sendBack 3 none 1 := ⟨w_228, w_227, w_2, w_37, ⟨by decide +kernel, by decide +kernel, by decide +kernel⟩⟩

def wp_X5_sendBackToLane (dE : Nat) (mc ms : Nat) (h : Hp) (this : Nat) (post : Hp → Prop) : Prop :=
(∀ J3 : Int32 → Hp → Nat → Nat → Prop, (∀ (v3_1 : Int32) (h3_ : Hp) (c3 : Nat) (s3 : Nat), ((v3_1 < 0 →
 post h3_) ∧ (¬ (v3_1 < 0) →
 (hT h3_ this = 7 ∧
 (∃ a3 : Nat, hR h3_ this 6 = some a3 ∧
 (hT h3_ a3 = 25 ∧
 (∃ j5 : Nat, v3_1 = nI j5 ∧ j5 < 2147483648 ∧ j5 < hL h3_ a3 ∧
 (∃ r6 : Option Nat, hR h3_ a3 j5 = r6 ∧
 (∀ J23 : Hp → Nat → Nat → Prop, (∀ (h23_ : Hp) (c23 : Nat) (s23 : Nat), (J3 (v3_1 + (-1 : Int32)) h23_ c23 s23) → J23 h23_ c23 s23) →
 ((r6 = none →
 J23 h3_ c3 s3) ∧ (∀ x7, r6 = some x7 →
 (c3 + 1 ≤ mc ∧
 (s3 + 49 ≤ ms ∧
 wp_X5_sendBack dE h3_ this x7 (fun h8 =>
 J23 h8 (c3 + 1) (s3 + 49)))))))))))))) → J3 v3_1 h3_ c3 s3) →
 J3 (7 : Int32) h 0 0)
set_option maxHeartbeats 4000000 in
set_option maxRecDepth 100000 in
theorem m_X5_sendBackToLane {E : Ev} {l : Launch} (hl : l.stackTraces = false) {mc ms : Nat} {h : Hp} {this : Nat} {post : Hp → Prop} (hw : wp_X5_sendBackToLane (eE E) mc ms h this post) : MT E l yX5_sendBackToLane cX5_sendBackToLane 3 none 9 215 mc ms h [.ref this] (poV post) (pxN) := by
  refine MT.of (by decide) hl (Nat.le_of_ble_eq_true rfl) (fun p e s m args below meth c C => ?_)
  unfold wp_X5_sendBackToLane at hw
  have C : CX E p l s m args meth c cX5_sendBackToLane 3 "TaktLine" "sendBackToLane" none [] := C
  show WS E p l e (rmOf 9 mc ms 215) s m args below meth c 3 (vx_MQ below (qcP E (poV post)) (xcP E (pxN)) args s mc ms (bsA E)) h 0 0 0 [(0, .ref this)] []
  refine r_bipush (v := (7 : Int32)) C dX5_sendBackToLane_0 (by decide) ?_
  refine r_istore_n C dX5_sendBackToLane_2 rfl (by decide) [(0, .ref this), (1, .int (7 : Int32))] ⟨rfl, rfl, trivial⟩ ?_
  replace hw := hw (fun (v3_1 : Int32) (h3_ : Hp) (c3 : Nat) (s3 : Nat) => c3 ≤ mc → s3 ≤ ms → WS E p l e (rmOf 9 mc ms 215) s m args below meth c 3 (vx_MQ below (qcP E (poV post)) (xcP E (pxN)) args s mc ms (bsA E)) h3_ c3 s3 3 [(0, .ref this), (1, .int v3_1)] []) (by
    intro v3_1 h3_ c3 s3 hv bc3 bs3
    replace hw := hv
    clear hv
    refine r_iload_n C dX5_sendBackToLane_3 rfl rfl ?_
    refine r_if_lt C 29 dX5_sendBackToLane_4 (by decide) (fun z1 => ?_) (fun z1 => ?_)
    · replace hw := hw.1 z1
      exact r_vret C dX5_sendBackToLane_29 bc3 bs3 ⟨rfl, hw⟩
    · replace hw := hw.2 z1
      refine r_aload_n C dX5_sendBackToLane_7 rfl rfl ?_
      obtain ⟨g2, hw⟩ := hw
      obtain ⟨a3, e3, hw⟩ := hw
      refine r_getA C K7 ob7 g2 (by decide) 6 (by decide) w_124 (fun _ z => z) e3 rfl dX5_sendBackToLane_8 ?_
      refine r_iload_n C dX5_sendBackToLane_11 rfl rfl ?_
      obtain ⟨g4, hw⟩ := hw
      obtain ⟨j5, f5, l5, k5, hw⟩ := hw
      obtain ⟨r6, e6, hw⟩ := hw
      refine a_R C ar25 g4 (by decide) (t0 := 5) rfl f5 l5 k5 e6 dX5_sendBackToLane_12 ?_
      refine r_astoreq_n C dX5_sendBackToLane_13 rfl (by decide) [(0, .ref this), (1, .int v3_1), (2, va_rf r6)] ⟨rfl, rfl, rfl, trivial⟩ ?_
      refine r_aloadq_n C dX5_sendBackToLane_14 rfl rfl ?_
      replace hw := hw (fun (h23_ : Hp) (c23 : Nat) (s23 : Nat) => c23 ≤ mc → s23 ≤ ms → WS E p l e (rmOf 9 mc ms 215) s m args below meth c 3 (vx_MQ below (qcP E (poV post)) (xcP E (pxN)) args s mc ms (bsA E)) h23_ c23 s23 23 [(0, .ref this), (1, .int v3_1)] []) (by
        intro h23_ c23 s23 hv bc23 bs23
        replace hw := hv
        clear hv
        refine r_iinc C (v3_1 + (-1 : Int32)) dX5_sendBackToLane_23 rfl rfl (by decide) [(0, .ref this), (1, .int (v3_1 + (-1 : Int32)))] ⟨rfl, rfl, trivial⟩ ?_
        refine r_goto C 3 dX5_sendBackToLane_26 (by decide) ?_
        exact (r_subk (hw bc23 bs23) ⟨rfl, rfl, trivial⟩)
        )
      refine r_ifnull C 23 dX5_sendBackToLane_15 (by decide) (fun z7 => ?_) (fun x7 z7 => ?_)
      · replace hw := hw.1 z7
        subst z7
        exact (r_subk (hw bc3 bs3) ⟨rfl, rfl, trivial⟩)
      · replace hw := hw.2 x7 z7
        subst z7
        refine r_aload_n C dX5_sendBackToLane_18 rfl rfl ?_
        refine r_aload_n C dX5_sendBackToLane_19 rfl rfl ?_
        obtain ⟨b9, d9, hw⟩ := hw
        refine r_callV (As := [.ref x7]) (st := []) C (m_X5_sendBack hl hw) v_X5_sendBack w_225 K7 g2 (by decide) ob7 rfl ⟨leb rfl, leb rfl⟩ ⟨b9, d9⟩ rfl (leb rfl) dX5_sendBackToLane_20 (fun _ _ z => z.elim) (kkV (K := fun hK sK => WS E p l e (rmOf 9 mc ms 215) s m args below meth c 3 (vx_MQ below (qcP E (poV post)) (xcP E (pxN)) args s mc ms (bsA E)) hK (c3 + 1) (s3 + 49) (20 + 3) [(0, .ref this), (1, .int v3_1), (2, .ref x7)] sK) (fun h8 hv => ?_))
        replace hw := hv
        clear hv
        exact (r_subk (hw b9 d9) ⟨rfl, rfl, trivial⟩)
    )
  exact (r_subk (hw (Nat.zero_le _) (Nat.zero_le _)) ⟨rfl, rfl, trivial⟩)
theorem v_X5_sendBackToLane : MV yX5_sendBackToLane cX5_sendBackToLane 3 none 0 := ⟨w_224, w_223, w_1, w_37, ⟨by decide +kernel, by decide +kernel, by decide +kernel⟩⟩

def wp_X5_lackingKinds (h : Hp) (this : Nat) (p0 : Nat) (post : Int32 → Prop) : Prop :=
(∀ J4 : Int32 → Int32 → Prop, (∀ (v4_2 : Int32) (v4_3 : Int32), (((10 : Int32) ≤ v4_3 →
 post v4_2) ∧ (¬ ((10 : Int32) ≤ v4_3) →
 (hT h this = 7 ∧
 wp_X5_isLacking h this p0 v4_3 (fun x2 =>
 (∀ J25 : Int32 → Prop, (∀ (v25_2 : Int32), (J4 v25_2 (v4_3 + (1 : Int32))) → J25 v25_2) →
 ((x2 = 0 →
 J25 v4_2) ∧ (¬ (x2 = 0) →
 J25 (v4_2 ||| ((1 : Int32) <<< (v4_3 &&& 31)))))))))) → J4 v4_2 v4_3) →
 J4 (0 : Int32) (0 : Int32))
set_option maxHeartbeats 4000000 in
set_option maxRecDepth 100000 in
theorem m_X5_lackingKinds {E : Ev} {l : Launch} (hl : l.stackTraces = false) {h : Hp} {this : Nat} {p0 : Nat} {post : Int32 → Prop} (hw : wp_X5_lackingKinds h this p0 post) : MT E l yX5_lackingKinds cX5_lackingKinds 4 (some .int) 2 44 0 0 h [.ref this, .ref p0] (puI h post) (pxN) := by
  refine MT.of (by decide) hl (Nat.le_of_ble_eq_true rfl) (fun p e s m args below meth c C => ?_)
  unfold wp_X5_lackingKinds at hw
  have C : CX E p l s m args meth c cX5_lackingKinds 4 "TaktLine" "lackingKinds" (some .int) [] := C
  show WS E p l e (rmOf 2 0 0 44) s m args below meth c 4 (vx_MQ below (qcP E (puI h post)) (xcP E (pxN)) args s 0 0 (bsA E)) h 0 0 0 [(0, .ref this), (1, .ref p0)] []
  refine r_iconst (v := (0 : Int32)) C dX5_lackingKinds_0 (by decide) ?_
  refine r_istore_n C dX5_lackingKinds_1 rfl (by decide) [(0, .ref this), (1, .ref p0), (2, .int (0 : Int32))] ⟨rfl, rfl, rfl, trivial⟩ ?_
  refine r_iconst (v := (0 : Int32)) C dX5_lackingKinds_2 (by decide) ?_
  refine r_istore_n C dX5_lackingKinds_3 rfl (by decide) [(0, .ref this), (1, .ref p0), (2, .int (0 : Int32)), (3, .int (0 : Int32))] ⟨rfl, rfl, rfl, rfl, trivial⟩ ?_
  replace hw := hw (fun (v4_2 : Int32) (v4_3 : Int32) => WS E p l e (rmOf 2 0 0 44) s m args below meth c 4 (vx_MQ below (qcP E (puI h post)) (xcP E (pxN)) args s 0 0 (bsA E)) h 0 0 4 [(0, .ref this), (1, .ref p0), (2, .int v4_2), (3, .int v4_3)] []) (by
    intro v4_2 v4_3 hv
    replace hw := hv
    clear hv
    refine r_iload_n C dX5_lackingKinds_4 rfl rfl ?_
    refine r_bipush (v := (10 : Int32)) C dX5_lackingKinds_5 (by decide) ?_
    refine r_icmp_ge C 31 dX5_lackingKinds_7 (by decide) (fun z1 => ?_) (fun z1 => ?_)
    · replace hw := hw.1 z1
      refine r_iload_n C dX5_lackingKinds_31 rfl rfl ?_
      exact r_iret C dX5_lackingKinds_32 (by decide) (by decide) ⟨_, rfl, hw, rfl⟩
    · replace hw := hw.2 z1
      refine r_aload_n C dX5_lackingKinds_10 rfl rfl ?_
      refine r_aload_n C dX5_lackingKinds_11 rfl rfl ?_
      refine r_iload_n C dX5_lackingKinds_12 rfl rfl ?_
      obtain ⟨g3, hw⟩ := hw
      refine r_callV (As := [.ref p0, .int v4_3]) (st := []) C (m_X5_isLacking hl hw) v_X5_isLacking w_233 K7 g3 (by decide) ob7 rfl ⟨leb rfl, leb rfl⟩ ⟨leb rfl, leb rfl⟩ rfl (leb rfl) dX5_lackingKinds_13 (fun _ _ z => z.elim) (kpI (K := fun hK sK => WS E p l e (rmOf 2 0 0 44) s m args below meth c 4 (vx_MQ below (qcP E (puI h post)) (xcP E (pxN)) args s 0 0 (bsA E)) hK (0 + 0) (0 + 0) (13 + 3) [(0, .ref this), (1, .ref p0), (2, .int v4_2), (3, .int v4_3)] sK) (fun x2 hv => ?_))
      replace hw := hv
      clear hv
      replace hw := hw (fun (v25_2 : Int32) => WS E p l e (rmOf 2 0 0 44) s m args below meth c 4 (vx_MQ below (qcP E (puI h post)) (xcP E (pxN)) args s 0 0 (bsA E)) h 0 0 25 [(0, .ref this), (1, .ref p0), (2, .int v25_2), (3, .int v4_3)] []) (by
        intro v25_2 hv
        replace hw := hv
        clear hv
        refine r_iinc C (v4_3 + (1 : Int32)) dX5_lackingKinds_25 rfl rfl (by decide) [(0, .ref this), (1, .ref p0), (2, .int v25_2), (3, .int (v4_3 + (1 : Int32)))] ⟨rfl, rfl, rfl, rfl, trivial⟩ ?_
        refine r_goto C 4 dX5_lackingKinds_28 (by decide) ?_
        exact (r_subk hw ⟨rfl, rfl, rfl, rfl, trivial⟩)
        )
      refine r_if_eq C 25 dX5_lackingKinds_16 (by decide) (fun z4 => ?_) (fun z4 => ?_)
      · replace hw := hw.1 z4
        exact (r_subk hw ⟨rfl, rfl, rfl, rfl, trivial⟩)
      · replace hw := hw.2 z4
        refine r_iload_n C dX5_lackingKinds_19 rfl rfl ?_
        refine r_iconst (v := (1 : Int32)) C dX5_lackingKinds_20 (by decide) ?_
        refine r_iload_n C dX5_lackingKinds_21 rfl rfl ?_
        refine r_ishl C dX5_lackingKinds_22 ?_
        refine r_ior C dX5_lackingKinds_23 ?_
        refine r_istore_n C dX5_lackingKinds_24 rfl (by decide) [(0, .ref this), (1, .ref p0), (2, .int (v4_2 ||| ((1 : Int32) <<< (v4_3 &&& 31)))), (3, .int v4_3)] ⟨rfl, rfl, rfl, rfl, trivial⟩ ?_
        exact (r_subk hw ⟨rfl, rfl, rfl, rfl, trivial⟩)
    )
  exact (r_subk hw ⟨rfl, rfl, rfl, rfl, trivial⟩)
theorem v_X5_lackingKinds : MV yX5_lackingKinds cX5_lackingKinds 4 (some .int) 1 := ⟨w_324, w_323, w_11, w_37, ⟨by decide +kernel, by decide +kernel, by decide +kernel⟩⟩

def wp_X5_softwareVersion (h : Hp) (this : Nat) (p0 : Nat) (p1 : Int32) (post : Int32 → Prop) : Prop :=
(hT h p0 = 2 ∧
 (∃ a2 : Nat, hR h p0 2 = some a2 ∧
 (hT h a2 = 24 ∧
 (∃ j4 : Nat, p1 = nI j4 ∧ j4 < 2147483648 ∧ j4 < hL h a2 ∧
 (∃ r5 : Option Nat, hR h a2 j4 = r5 ∧
 (∀ J31 : Int32 → Prop, (∀ (t31_0 : Int32), (post t31_0) → J31 t31_0) →
 (∀ J23 : Prop, ((J31 (0 : Int32)) → J23) →
 ((r5 = none →
 J23) ∧ (∀ x6, r5 = some x6 →
 (hT h this = 7 ∧
 (∃ a8 : Nat, hR h this 0 = some a8 ∧
 (hT h a8 = 23 ∧
 (∃ j10 : Nat, p1 = nI j10 ∧ j10 < 2147483648 ∧ j10 < hL h a8 ∧
 (∃ a11 : Nat, hR h a8 j10 = some a11 ∧
 (hT h a11 = 4 ∧
 (∃ x13 : Int32, hI h a11 3 = x13 ∧
 ((x13 = 0 →
 J23) ∧ (¬ (x13 = 0) →
 (hT h x6 = 5 ∧
 (∃ x16 : Int32, hI h x6 2 = x16 ∧
 J31 x16))))))))))))))))))))
set_option maxHeartbeats 4000000 in
set_option maxRecDepth 100000 in
theorem m_X5_softwareVersion {E : Ev} {l : Launch} (hl : l.stackTraces = false) {h : Hp} {this : Nat} {p0 : Nat} {p1 : Int32} {post : Int32 → Prop} (hw : wp_X5_softwareVersion h this p0 p1 post) : MT E l yX5_softwareVersion cX5_softwareVersion 4 (some .int) 0 0 0 0 h [.ref this, .ref p0, .int p1] (puI h post) (pxN) := by
  refine MT.of (by decide) hl (Nat.le_of_ble_eq_true rfl) (fun p e s m args below meth c C => ?_)
  unfold wp_X5_softwareVersion at hw
  have C : CX E p l s m args meth c cX5_softwareVersion 4 "TaktLine" "softwareVersion" (some .int) [] := C
  show WS E p l e (rmOf 0 0 0 0) s m args below meth c 4 (vx_MQ below (qcP E (puI h post)) (xcP E (pxN)) args s 0 0 (bsA E)) h 0 0 0 [(0, .ref this), (1, .ref p0), (2, .int p1)] []
  refine r_aload_n C dX5_softwareVersion_0 rfl rfl ?_
  obtain ⟨g1, hw⟩ := hw
  obtain ⟨a2, e2, hw⟩ := hw
  refine r_getA C K2 ob2 g1 (by decide) 2 (by decide) w_639 (fun _ z => z) e2 rfl dX5_softwareVersion_1 ?_
  refine r_iload_n C dX5_softwareVersion_4 rfl rfl ?_
  obtain ⟨g3, hw⟩ := hw
  obtain ⟨j4, f4, l4, k4, hw⟩ := hw
  obtain ⟨r5, e5, hw⟩ := hw
  refine a_R C ar24 g3 (by decide) (t0 := 4) rfl f4 l4 k4 e5 dX5_softwareVersion_5 ?_
  refine r_astoreq_n C dX5_softwareVersion_6 rfl (by decide) [(0, .ref this), (2, .int p1), (3, va_rf r5)] ⟨rfl, rfl, rfl, trivial⟩ ?_
  refine r_aloadq_n C dX5_softwareVersion_7 rfl rfl ?_
  replace hw := hw (fun (t31_0 : Int32) => WS E p l e (rmOf 0 0 0 0) s m args below meth c 4 (vx_MQ below (qcP E (puI h post)) (xcP E (pxN)) args s 0 0 (bsA E)) h 0 0 31 [] [.int t31_0]) (by
    intro t31_0 hv
    replace hw := hv
    clear hv
    exact r_iret C dX5_softwareVersion_31 (by decide) (by decide) ⟨_, rfl, hw, rfl⟩
    )
  replace hw := hw (WS E p l e (rmOf 0 0 0 0) s m args below meth c 4 (vx_MQ below (qcP E (puI h post)) (xcP E (pxN)) args s 0 0 (bsA E)) h 0 0 23 [] []) (by
    intro hv
    replace hw := hv
    clear hv
    refine r_iconst (v := (0 : Int32)) C dX5_softwareVersion_23 (by decide) ?_
    refine r_goto C 31 dX5_softwareVersion_24 (by decide) ?_
    exact (r_subk hw trivial)
    )
  refine r_ifnull C 23 dX5_softwareVersion_8 (by decide) (fun z6 => ?_) (fun x6 z6 => ?_)
  · replace hw := hw.1 z6
    subst z6
    exact (r_subk hw trivial)
  · replace hw := hw.2 x6 z6
    subst z6
    refine r_aload_n C dX5_softwareVersion_11 rfl rfl ?_
    obtain ⟨g7, hw⟩ := hw
    obtain ⟨a8, e8, hw⟩ := hw
    refine r_getA C K7 ob7 g7 (by decide) 0 (by decide) w_118 (fun _ z => z) e8 rfl dX5_softwareVersion_12 ?_
    refine r_iload_n C dX5_softwareVersion_15 rfl rfl ?_
    obtain ⟨g9, hw⟩ := hw
    obtain ⟨j10, f10, l10, k10, hw⟩ := hw
    obtain ⟨a11, e11, hw⟩ := hw
    refine a_A C ar23 g9 (by decide) (t0 := 3) rfl f10 l10 k10 e11 dX5_softwareVersion_16 ?_
    obtain ⟨g12, hw⟩ := hw
    obtain ⟨x13, e13, hw⟩ := hw
    refine r_getI C K4 ob4 g12 (by decide) 3 (by decide) w_108 (fun _ z => z) e13 rfl dX5_softwareVersion_17 ?_
    refine r_if_ne C 27 dX5_softwareVersion_20 (by decide) (fun z14 => ?_) (fun z14 => ?_)
    · replace hw := hw.2 z14
      refine r_aload_n C dX5_softwareVersion_27 rfl rfl ?_
      obtain ⟨g15, hw⟩ := hw
      obtain ⟨x16, e16, hw⟩ := hw
      refine r_getI C K5 ob5 g15 (by decide) 2 (by decide) w_584 (fun _ z => z) e16 rfl dX5_softwareVersion_28 ?_
      exact (r_subk hw trivial)
    · replace hw := hw.1 z14
      exact (r_subk hw trivial)
theorem v_X5_softwareVersion : MV yX5_softwareVersion cX5_softwareVersion 4 (some .int) 2 := ⟨w_340, w_339, w_14, w_37, ⟨by decide +kernel, by decide +kernel, by decide +kernel⟩⟩

def wp_X5_isBuiltFor (h : Hp) (this : Nat) (p0 : Nat) (p1 : Nat) (post : Int32 → Prop) : Prop :=
(∀ J2 : Int32 → Prop, (∀ (v2_3 : Int32), (((10 : Int32) ≤ v2_3 →
 post (1 : Int32)) ∧ (¬ ((10 : Int32) ≤ v2_3) →
 (hT h p0 = 3 ∧
 (∃ a3 : Nat, hR h p0 1 = some a3 ∧
 (hT h a3 = 20 ∧
 (∃ j5 : Nat, v2_3 = nI j5 ∧ j5 < 2147483648 ∧ j5 < hL h a3 ∧
 (∃ x6 : Int32, hI h a3 j5 = x6 ∧
 (hT h this = 7 ∧
 wp_X5_softwareVersion h this p1 v2_3 (fun x7 =>
 ((x6 = x7 →
 J2 (v2_3 + (1 : Int32))) ∧ (¬ (x6 = x7) →
 post (0 : Int32)))))))))))) → J2 v2_3) →
 J2 (0 : Int32))
set_option maxHeartbeats 4000000 in
set_option maxRecDepth 100000 in
theorem m_X5_isBuiltFor {E : Ev} {l : Launch} (hl : l.stackTraces = false) {h : Hp} {this : Nat} {p0 : Nat} {p1 : Nat} {post : Int32 → Prop} (hw : wp_X5_isBuiltFor h this p0 p1 post) : MT E l yX5_isBuiltFor cX5_isBuiltFor 4 (some .boolean) 1 23 0 0 h [.ref this, .ref p0, .ref p1] (puI h post) (pxN) := by
  refine MT.of (by decide) hl (Nat.le_of_ble_eq_true rfl) (fun p e s m args below meth c C => ?_)
  unfold wp_X5_isBuiltFor at hw
  have C : CX E p l s m args meth c cX5_isBuiltFor 4 "TaktLine" "isBuiltFor" (some .boolean) [] := C
  show WS E p l e (rmOf 1 0 0 23) s m args below meth c 4 (vx_MQ below (qcP E (puI h post)) (xcP E (pxN)) args s 0 0 (bsA E)) h 0 0 0 [(0, .ref this), (1, .ref p0), (2, .ref p1)] []
  refine r_iconst (v := (0 : Int32)) C dX5_isBuiltFor_0 (by decide) ?_
  refine r_istore_n C dX5_isBuiltFor_1 rfl (by decide) [(0, .ref this), (1, .ref p0), (2, .ref p1), (3, .int (0 : Int32))] ⟨rfl, rfl, rfl, rfl, trivial⟩ ?_
  replace hw := hw (fun (v2_3 : Int32) => WS E p l e (rmOf 1 0 0 23) s m args below meth c 4 (vx_MQ below (qcP E (puI h post)) (xcP E (pxN)) args s 0 0 (bsA E)) h 0 0 2 [(0, .ref this), (1, .ref p0), (2, .ref p1), (3, .int v2_3)] []) (by
    intro v2_3 hv
    replace hw := hv
    clear hv
    refine r_iload_n C dX5_isBuiltFor_2 rfl rfl ?_
    refine r_bipush (v := (10 : Int32)) C dX5_isBuiltFor_3 (by decide) ?_
    refine r_icmp_ge C 31 dX5_isBuiltFor_5 (by decide) (fun z1 => ?_) (fun z1 => ?_)
    · replace hw := hw.1 z1
      refine r_iconst (v := (1 : Int32)) C dX5_isBuiltFor_31 (by decide) ?_
      exact r_zret C (Or.inr rfl) dX5_isBuiltFor_32 (by decide) (by decide) ⟨_, rfl, hw, rfl⟩
    · replace hw := hw.2 z1
      refine r_aload_n C dX5_isBuiltFor_8 rfl rfl ?_
      obtain ⟨g2, hw⟩ := hw
      obtain ⟨a3, e3, hw⟩ := hw
      refine r_getA C K3 ob3 g2 (by decide) 1 (by decide) w_500 (fun _ z => z) e3 rfl dX5_isBuiltFor_9 ?_
      refine r_iload_n C dX5_isBuiltFor_12 rfl rfl ?_
      obtain ⟨g4, hw⟩ := hw
      obtain ⟨j5, f5, l5, k5, hw⟩ := hw
      obtain ⟨x6, e6, hw⟩ := hw
      refine a_I C g4 f5 l5 k5 e6 dX5_isBuiltFor_13 ?_
      refine r_aload_n C dX5_isBuiltFor_14 rfl rfl ?_
      refine r_aload_n C dX5_isBuiltFor_15 rfl rfl ?_
      refine r_iload_n C dX5_isBuiltFor_16 rfl rfl ?_
      obtain ⟨g8, hw⟩ := hw
      refine r_callV (As := [.ref p1, .int v2_3]) (st := [.int x6]) C (m_X5_softwareVersion hl hw) v_X5_softwareVersion w_337 K7 g8 (by decide) ob7 rfl ⟨leb rfl, leb rfl⟩ ⟨leb rfl, leb rfl⟩ rfl (leb rfl) dX5_isBuiltFor_17 (fun _ _ z => z.elim) (kpI (K := fun hK sK => WS E p l e (rmOf 1 0 0 23) s m args below meth c 4 (vx_MQ below (qcP E (puI h post)) (xcP E (pxN)) args s 0 0 (bsA E)) hK (0 + 0) (0 + 0) (17 + 3) [(0, .ref this), (1, .ref p0), (2, .ref p1), (3, .int v2_3)] sK) (fun x7 hv => ?_))
      replace hw := hv
      clear hv
      refine r_icmp_eq C 25 dX5_isBuiltFor_20 (by decide) (fun z9 => ?_) (fun z9 => ?_)
      · replace hw := hw.1 z9
        refine r_iinc C (v2_3 + (1 : Int32)) dX5_isBuiltFor_25 rfl rfl (by decide) [(0, .ref this), (1, .ref p0), (2, .ref p1), (3, .int (v2_3 + (1 : Int32)))] ⟨rfl, rfl, rfl, rfl, trivial⟩ ?_
        refine r_goto C 2 dX5_isBuiltFor_28 (by decide) ?_
        exact (r_subk hw ⟨rfl, rfl, rfl, rfl, trivial⟩)
      · replace hw := hw.2 z9
        refine r_iconst (v := (0 : Int32)) C dX5_isBuiltFor_23 (by decide) ?_
        exact r_zret C (Or.inl rfl) dX5_isBuiltFor_24 (by decide) (by decide) ⟨_, rfl, hw, rfl⟩
    )
  exact (r_subk hw ⟨rfl, rfl, rfl, rfl, trivial⟩)
theorem v_X5_isBuiltFor : MV yX5_isBuiltFor cX5_isBuiltFor 4 (some .boolean) 2 := ⟨w_336, w_335, w_13, w_37, ⟨by decide +kernel, by decide +kernel, by decide +kernel⟩⟩

def wp_X5_isLackingSoftware (h : Hp) (this : Nat) (p0 : Nat) (post : Int32 → Prop) : Prop :=
(∀ J2 : Int32 → Prop, (∀ (v2_2 : Int32), (((10 : Int32) ≤ v2_2 →
 post (0 : Int32)) ∧ (¬ ((10 : Int32) ≤ v2_2) →
 (hT h this = 7 ∧
 (∃ a3 : Nat, hR h this 0 = some a3 ∧
 (hT h a3 = 23 ∧
 (∃ j5 : Nat, v2_2 = nI j5 ∧ j5 < 2147483648 ∧ j5 < hL h a3 ∧
 (∃ a6 : Nat, hR h a3 j5 = some a6 ∧
 (hT h a6 = 4 ∧
 (∃ x8 : Int32, hI h a6 3 = x8 ∧
 (∀ J31 : Prop, ((J2 (v2_2 + (1 : Int32))) → J31) →
 ((x8 = 0 →
 J31) ∧ (¬ (x8 = 0) →
 wp_X5_isLacking h this p0 v2_2 (fun x10 =>
 ((x10 = 0 →
 J31) ∧ (¬ (x10 = 0) →
 post (1 : Int32)))))))))))))))) → J2 v2_2) →
 J2 (0 : Int32))
set_option maxHeartbeats 4000000 in
set_option maxRecDepth 100000 in
theorem m_X5_isLackingSoftware {E : Ev} {l : Launch} (hl : l.stackTraces = false) {h : Hp} {this : Nat} {p0 : Nat} {post : Int32 → Prop} (hw : wp_X5_isLackingSoftware h this p0 post) : MT E l yX5_isLackingSoftware cX5_isLackingSoftware 3 (some .boolean) 2 44 0 0 h [.ref this, .ref p0] (puI h post) (pxN) := by
  refine MT.of (by decide) hl (Nat.le_of_ble_eq_true rfl) (fun p e s m args below meth c C => ?_)
  unfold wp_X5_isLackingSoftware at hw
  have C : CX E p l s m args meth c cX5_isLackingSoftware 3 "TaktLine" "isLackingSoftware" (some .boolean) [] := C
  show WS E p l e (rmOf 2 0 0 44) s m args below meth c 3 (vx_MQ below (qcP E (puI h post)) (xcP E (pxN)) args s 0 0 (bsA E)) h 0 0 0 [(0, .ref this), (1, .ref p0)] []
  refine r_iconst (v := (0 : Int32)) C dX5_isLackingSoftware_0 (by decide) ?_
  refine r_istore_n C dX5_isLackingSoftware_1 rfl (by decide) [(0, .ref this), (1, .ref p0), (2, .int (0 : Int32))] ⟨rfl, rfl, rfl, trivial⟩ ?_
  replace hw := hw (fun (v2_2 : Int32) => WS E p l e (rmOf 2 0 0 44) s m args below meth c 3 (vx_MQ below (qcP E (puI h post)) (xcP E (pxN)) args s 0 0 (bsA E)) h 0 0 2 [(0, .ref this), (1, .ref p0), (2, .int v2_2)] []) (by
    intro v2_2 hv
    replace hw := hv
    clear hv
    refine r_iload_n C dX5_isLackingSoftware_2 rfl rfl ?_
    refine r_bipush (v := (10 : Int32)) C dX5_isLackingSoftware_3 (by decide) ?_
    refine r_icmp_ge C 37 dX5_isLackingSoftware_5 (by decide) (fun z1 => ?_) (fun z1 => ?_)
    · replace hw := hw.1 z1
      refine r_iconst (v := (0 : Int32)) C dX5_isLackingSoftware_37 (by decide) ?_
      exact r_zret C (Or.inl rfl) dX5_isLackingSoftware_38 (by decide) (by decide) ⟨_, rfl, hw, rfl⟩
    · replace hw := hw.2 z1
      refine r_aload_n C dX5_isLackingSoftware_8 rfl rfl ?_
      obtain ⟨g2, hw⟩ := hw
      obtain ⟨a3, e3, hw⟩ := hw
      refine r_getA C K7 ob7 g2 (by decide) 0 (by decide) w_118 (fun _ z => z) e3 rfl dX5_isLackingSoftware_9 ?_
      refine r_iload_n C dX5_isLackingSoftware_12 rfl rfl ?_
      obtain ⟨g4, hw⟩ := hw
      obtain ⟨j5, f5, l5, k5, hw⟩ := hw
      obtain ⟨a6, e6, hw⟩ := hw
      refine a_A C ar23 g4 (by decide) (t0 := 3) rfl f5 l5 k5 e6 dX5_isLackingSoftware_13 ?_
      obtain ⟨g7, hw⟩ := hw
      obtain ⟨x8, e8, hw⟩ := hw
      refine r_getI C K4 ob4 g7 (by decide) 3 (by decide) w_108 (fun _ z => z) e8 rfl dX5_isLackingSoftware_14 ?_
      replace hw := hw (WS E p l e (rmOf 2 0 0 44) s m args below meth c 3 (vx_MQ below (qcP E (puI h post)) (xcP E (pxN)) args s 0 0 (bsA E)) h 0 0 31 [(0, .ref this), (1, .ref p0), (2, .int v2_2)] []) (by
        intro hv
        replace hw := hv
        clear hv
        refine r_iinc C (v2_2 + (1 : Int32)) dX5_isLackingSoftware_31 rfl rfl (by decide) [(0, .ref this), (1, .ref p0), (2, .int (v2_2 + (1 : Int32)))] ⟨rfl, rfl, rfl, trivial⟩ ?_
        refine r_goto C 2 dX5_isLackingSoftware_34 (by decide) ?_
        exact (r_subk hw ⟨rfl, rfl, rfl, trivial⟩)
        )
      refine r_if_eq C 31 dX5_isLackingSoftware_17 (by decide) (fun z9 => ?_) (fun z9 => ?_)
      · replace hw := hw.1 z9
        exact (r_subk hw ⟨rfl, rfl, rfl, trivial⟩)
      · replace hw := hw.2 z9
        refine r_aload_n C dX5_isLackingSoftware_20 rfl rfl ?_
        refine r_aload_n C dX5_isLackingSoftware_21 rfl rfl ?_
        refine r_iload_n C dX5_isLackingSoftware_22 rfl rfl ?_
        refine r_callV (As := [.ref p0, .int v2_2]) (st := []) C (m_X5_isLacking hl hw) v_X5_isLacking w_233 K7 g2 (by decide) ob7 rfl ⟨leb rfl, leb rfl⟩ ⟨leb rfl, leb rfl⟩ rfl (leb rfl) dX5_isLackingSoftware_23 (fun _ _ z => z.elim) (kpI (K := fun hK sK => WS E p l e (rmOf 2 0 0 44) s m args below meth c 3 (vx_MQ below (qcP E (puI h post)) (xcP E (pxN)) args s 0 0 (bsA E)) hK (0 + 0) (0 + 0) (23 + 3) [(0, .ref this), (1, .ref p0), (2, .int v2_2)] sK) (fun x10 hv => ?_))
        replace hw := hv
        clear hv
        refine r_if_eq C 31 dX5_isLackingSoftware_26 (by decide) (fun z11 => ?_) (fun z11 => ?_)
        · replace hw := hw.1 z11
          exact (r_subk hw ⟨rfl, rfl, rfl, trivial⟩)
        · replace hw := hw.2 z11
          refine r_iconst (v := (1 : Int32)) C dX5_isLackingSoftware_29 (by decide) ?_
          exact r_zret C (Or.inr rfl) dX5_isLackingSoftware_30 (by decide) (by decide) ⟨_, rfl, hw, rfl⟩
    )
  exact (r_subk hw ⟨rfl, rfl, rfl, trivial⟩)
theorem v_X5_isLackingSoftware : MV yX5_isLackingSoftware cX5_isLackingSoftware 3 (some .boolean) 1 := ⟨w_344, w_343, w_15, w_37, ⟨by decide +kernel, by decide +kernel, by decide +kernel⟩⟩

def wp_X5_fits (h : Hp) (this : Nat) (p0 : Nat) (post : Int32 → Prop) : Prop :=
(hT h p0 = 2 ∧
 (∃ r2 : Option Nat, hR h p0 5 = r2 ∧
 (∀ J42 : Int32 → Prop, (∀ (t42_0 : Int32), (b01 t42_0 ∧
 post t42_0) → J42 t42_0) →
 (∀ J41 : Prop, ((J42 (0 : Int32)) → J41) →
 ((r2 = none →
 J41) ∧ (∀ x4, r2 = some x4 →
 (∃ x5 : Int32, hI h p0 0 = x5 ∧
 (hT h x4 = 3 ∧
 wp_X1_isSignedFor h x4 x5 (fun x6 =>
 ((x6 = 0 →
 J41) ∧ (¬ (x6 = 0) →
 (hT h this = 7 ∧
 wp_X5_isBuiltFor h this x4 p0 (fun x9 =>
 ((x9 = 0 →
 J41) ∧ (¬ (x9 = 0) →
 wp_X5_isLackingSoftware h this p0 (fun x12 =>
 ((x12 = 0 →
 J42 (1 : Int32)) ∧ (¬ (x12 = 0) →
 J41))))))))))))))))))
set_option maxHeartbeats 4000000 in
set_option maxRecDepth 100000 in
theorem m_X5_fits {E : Ev} {l : Launch} (hl : l.stackTraces = false) {h : Hp} {this : Nat} {p0 : Nat} {post : Int32 → Prop} (hw : wp_X5_fits h this p0 post) : MT E l yX5_fits cX5_fits 3 (some .boolean) 3 66 0 0 h [.ref this, .ref p0] (puI h post) (pxN) := by
  refine MT.of (by decide) hl (Nat.le_of_ble_eq_true rfl) (fun p e s m args below meth c C => ?_)
  unfold wp_X5_fits at hw
  have C : CX E p l s m args meth c cX5_fits 3 "TaktLine" "fits" (some .boolean) [] := C
  show WS E p l e (rmOf 3 0 0 66) s m args below meth c 3 (vx_MQ below (qcP E (puI h post)) (xcP E (pxN)) args s 0 0 (bsA E)) h 0 0 0 [(0, .ref this), (1, .ref p0)] []
  refine r_aload_n C dX5_fits_0 rfl rfl ?_
  obtain ⟨g1, hw⟩ := hw
  obtain ⟨r2, e2, hw⟩ := hw
  refine r_getR C K2 ob2 g1 (by decide) 5 (by decide) w_645 (fun _ z => z) e2 rfl dX5_fits_1 ?_
  refine r_astoreq_n C dX5_fits_4 rfl (by decide) [(0, .ref this), (1, .ref p0), (2, va_rf r2)] ⟨rfl, rfl, rfl, trivial⟩ ?_
  refine r_aloadq_n C dX5_fits_5 rfl rfl ?_
  replace hw := hw (fun (t42_0 : Int32) => WS E p l e (rmOf 3 0 0 66) s m args below meth c 3 (vx_MQ below (qcP E (puI h post)) (xcP E (pxN)) args s 0 0 (bsA E)) h 0 0 42 [] [.int t42_0]) (by
    intro t42_0 hv
    replace hw := hv
    clear hv
    obtain ⟨y3, hw⟩ := hw
    exact r_zret C y3 dX5_fits_42 (by decide) (by decide) ⟨_, rfl, hw, rfl⟩
    )
  replace hw := hw (WS E p l e (rmOf 3 0 0 66) s m args below meth c 3 (vx_MQ below (qcP E (puI h post)) (xcP E (pxN)) args s 0 0 (bsA E)) h 0 0 41 [] []) (by
    intro hv
    replace hw := hv
    clear hv
    refine r_iconst (v := (0 : Int32)) C dX5_fits_41 (by decide) ?_
    exact (r_subk hw trivial)
    )
  refine r_ifnull C 41 dX5_fits_6 (by decide) (fun z4 => ?_) (fun x4 z4 => ?_)
  · replace hw := hw.1 z4
    subst z4
    exact (r_subk hw trivial)
  · replace hw := hw.2 x4 z4
    subst z4
    refine r_aload_n C dX5_fits_9 rfl rfl ?_
    refine r_aload_n C dX5_fits_10 rfl rfl ?_
    obtain ⟨x5, e5, hw⟩ := hw
    refine r_getI C K2 ob2 g1 (by decide) 0 (by decide) w_635 (fun _ z => z) e5 rfl dX5_fits_11 ?_
    obtain ⟨g7, hw⟩ := hw
    refine r_callV (As := [.int x5]) (st := []) C (m_X1_isSignedFor hl hw) v_X1_isSignedFor w_329 K3 g7 (by decide) ob3 rfl ⟨leb rfl, leb rfl⟩ ⟨leb rfl, leb rfl⟩ rfl (leb rfl) dX5_fits_14 (fun _ _ z => z.elim) (kpI (K := fun hK sK => WS E p l e (rmOf 3 0 0 66) s m args below meth c 3 (vx_MQ below (qcP E (puI h post)) (xcP E (pxN)) args s 0 0 (bsA E)) hK (0 + 0) (0 + 0) (14 + 3) [(0, .ref this), (1, .ref p0), (2, .ref x4)] sK) (fun x6 hv => ?_))
    replace hw := hv
    clear hv
    refine r_if_eq C 41 dX5_fits_17 (by decide) (fun z8 => ?_) (fun z8 => ?_)
    · replace hw := hw.1 z8
      exact (r_subk hw trivial)
    · replace hw := hw.2 z8
      refine r_aload_n C dX5_fits_20 rfl rfl ?_
      refine r_aload_n C dX5_fits_21 rfl rfl ?_
      refine r_aload_n C dX5_fits_22 rfl rfl ?_
      obtain ⟨g10, hw⟩ := hw
      refine r_callV (As := [.ref x4, .ref p0]) (st := []) C (m_X5_isBuiltFor hl hw) v_X5_isBuiltFor w_333 K7 g10 (by decide) ob7 rfl ⟨leb rfl, leb rfl⟩ ⟨leb rfl, leb rfl⟩ rfl (leb rfl) dX5_fits_23 (fun _ _ z => z.elim) (kpI (K := fun hK sK => WS E p l e (rmOf 3 0 0 66) s m args below meth c 3 (vx_MQ below (qcP E (puI h post)) (xcP E (pxN)) args s 0 0 (bsA E)) hK (0 + 0) (0 + 0) (23 + 3) [(0, .ref this), (1, .ref p0), (2, .ref x4)] sK) (fun x9 hv => ?_))
      replace hw := hv
      clear hv
      refine r_if_eq C 41 dX5_fits_26 (by decide) (fun z11 => ?_) (fun z11 => ?_)
      · replace hw := hw.1 z11
        exact (r_subk hw trivial)
      · replace hw := hw.2 z11
        refine r_aload_n C dX5_fits_29 rfl rfl ?_
        refine r_aload_n C dX5_fits_30 rfl rfl ?_
        refine r_callV (As := [.ref p0]) (st := []) C (m_X5_isLackingSoftware hl hw) v_X5_isLackingSoftware w_341 K7 g10 (by decide) ob7 rfl ⟨leb rfl, leb rfl⟩ ⟨leb rfl, leb rfl⟩ rfl (leb rfl) dX5_fits_31 (fun _ _ z => z.elim) (kpI (K := fun hK sK => WS E p l e (rmOf 3 0 0 66) s m args below meth c 3 (vx_MQ below (qcP E (puI h post)) (xcP E (pxN)) args s 0 0 (bsA E)) hK (0 + 0) (0 + 0) (31 + 3) [(0, .ref this), (1, .ref p0), (2, .ref x4)] sK) (fun x12 hv => ?_))
        replace hw := hv
        clear hv
        refine r_if_ne C 41 dX5_fits_34 (by decide) (fun z13 => ?_) (fun z13 => ?_)
        · replace hw := hw.2 z13
          exact (r_subk hw trivial)
        · replace hw := hw.1 z13
          refine r_iconst (v := (1 : Int32)) C dX5_fits_37 (by decide) ?_
          refine r_goto C 42 dX5_fits_38 (by decide) ?_
          exact (r_subk hw trivial)
theorem v_X5_fits : MV yX5_fits cX5_fits 3 (some .boolean) 1 := ⟨w_328, w_327, w_12, w_37, ⟨by decide +kernel, by decide +kernel, by decide +kernel⟩⟩

def wp_X5_leaveLine (h : Hp) (this : Nat) (post : Int32 → Hp → Prop) : Prop :=
(hT h this = 7 ∧
 (∃ a2 : Nat, hR h this 6 = some a2 ∧
 (hT h a2 = 25 ∧
 (7 < hL h a2 ∧
 (∃ r5 : Option Nat, hR h a2 7 = r5 ∧
 (∀ J35 : Prop, ((post (0 : Int32) h) → J35) →
 ((r5 = none →
 J35) ∧ (∀ x6, r5 = some x6 →
 wp_X5_lackingKinds h this x6 (fun x7 =>
 ((x7 = 0 →
 (hT h x6 = 2 ∧
 (∃ x10 : Int32, hI h x6 6 = x10 ∧
 ((x10 = 0 →
 J35) ∧ (¬ (x10 = 0) →
 wp_X5_fits h this x6 (fun x12 =>
 ((x12 = 0 →
 J35) ∧ (¬ (x12 = 0) →
 wp_X5_clearPlaceOf h this x6 (fun h14 =>
 (hT h14 x6 = 2 ∧
 (∀ h16, h16 = sI h14 x6 3 (3 : Int32) →
 (∀ h18, h18 = sI h16 x6 4 (-1 : Int32) →
 post (1 : Int32) h18)))))))))))) ∧ (¬ (x7 = 0) →
 J35)))))))))))
set_option maxHeartbeats 4000000 in
set_option maxRecDepth 100000 in
theorem m_X5_leaveLine {E : Ev} {l : Launch} (hl : l.stackTraces = false) {h : Hp} {this : Nat} {post : Int32 → Hp → Prop} (hw : wp_X5_leaveLine h this post) : MT E l yX5_leaveLine cX5_leaveLine 2 (some .boolean) 4 88 0 0 h [.ref this] (poI post) (pxN) := by
  refine MT.of (by decide) hl (Nat.le_of_ble_eq_true rfl) (fun p e s m args below meth c C => ?_)
  unfold wp_X5_leaveLine at hw
  have C : CX E p l s m args meth c cX5_leaveLine 2 "TaktLine" "leaveLine" (some .boolean) [] := C
  show WS E p l e (rmOf 4 0 0 88) s m args below meth c 2 (vx_MQ below (qcP E (poI post)) (xcP E (pxN)) args s 0 0 (bsA E)) h 0 0 0 [(0, .ref this)] []
  refine r_aload_n C dX5_leaveLine_0 rfl rfl ?_
  obtain ⟨g1, hw⟩ := hw
  obtain ⟨a2, e2, hw⟩ := hw
  refine r_getA C K7 ob7 g1 (by decide) 6 (by decide) w_124 (fun _ z => z) e2 rfl dX5_leaveLine_1 ?_
  refine r_bipush (v := (7 : Int32)) C dX5_leaveLine_4 (by decide) ?_
  obtain ⟨g3, hw⟩ := hw
  obtain ⟨l4, hw⟩ := hw
  obtain ⟨r5, e5, hw⟩ := hw
  refine a_R C ar25 g3 (by decide) (t0 := 5) rfl (j := 7) rfl (by decide) l4 e5 dX5_leaveLine_6 ?_
  refine r_astoreq_n C dX5_leaveLine_7 rfl (by decide) [(0, .ref this), (1, va_rf r5)] ⟨rfl, rfl, trivial⟩ ?_
  refine r_aloadq_n C dX5_leaveLine_8 rfl rfl ?_
  replace hw := hw (WS E p l e (rmOf 4 0 0 88) s m args below meth c 2 (vx_MQ below (qcP E (poI post)) (xcP E (pxN)) args s 0 0 (bsA E)) h 0 0 35 [] []) (by
    intro hv
    replace hw := hv
    clear hv
    refine r_iconst (v := (0 : Int32)) C dX5_leaveLine_35 (by decide) ?_
    exact r_zret C (Or.inl rfl) dX5_leaveLine_36 (by decide) (by decide) ⟨_, rfl, hw⟩
    )
  refine r_ifnull C 35 dX5_leaveLine_9 (by decide) (fun z6 => ?_) (fun x6 z6 => ?_)
  · replace hw := hw.1 z6
    subst z6
    exact (r_subk hw trivial)
  · replace hw := hw.2 x6 z6
    subst z6
    refine r_aload_n C dX5_leaveLine_12 rfl rfl ?_
    refine r_aload_n C dX5_leaveLine_13 rfl rfl ?_
    refine r_callV (As := [.ref x6]) (st := []) C (m_X5_lackingKinds hl hw) v_X5_lackingKinds w_321 K7 g1 (by decide) ob7 rfl ⟨leb rfl, leb rfl⟩ ⟨leb rfl, leb rfl⟩ rfl (leb rfl) dX5_leaveLine_14 (fun _ _ z => z.elim) (kpI (K := fun hK sK => WS E p l e (rmOf 4 0 0 88) s m args below meth c 2 (vx_MQ below (qcP E (poI post)) (xcP E (pxN)) args s 0 0 (bsA E)) hK (0 + 0) (0 + 0) (14 + 3) [(0, .ref this), (1, .ref x6)] sK) (fun x7 hv => ?_))
    replace hw := hv
    clear hv
    refine r_if_ne C 35 dX5_leaveLine_17 (by decide) (fun z8 => ?_) (fun z8 => ?_)
    · replace hw := hw.2 z8
      exact (r_subk hw trivial)
    · replace hw := hw.1 z8
      refine r_aload_n C dX5_leaveLine_20 rfl rfl ?_
      obtain ⟨g9, hw⟩ := hw
      obtain ⟨x10, e10, hw⟩ := hw
      refine r_getI C K2 ob2 g9 (by decide) 6 (by decide) w_647 (fun _ z => z) e10 rfl dX5_leaveLine_21 ?_
      refine r_if_eq C 35 dX5_leaveLine_24 (by decide) (fun z11 => ?_) (fun z11 => ?_)
      · replace hw := hw.1 z11
        exact (r_subk hw trivial)
      · replace hw := hw.2 z11
        refine r_aload_n C dX5_leaveLine_27 rfl rfl ?_
        refine r_aload_n C dX5_leaveLine_28 rfl rfl ?_
        refine r_callV (As := [.ref x6]) (st := []) C (m_X5_fits hl hw) v_X5_fits w_325 K7 g1 (by decide) ob7 rfl ⟨leb rfl, leb rfl⟩ ⟨leb rfl, leb rfl⟩ rfl (leb rfl) dX5_leaveLine_29 (fun _ _ z => z.elim) (kpI (K := fun hK sK => WS E p l e (rmOf 4 0 0 88) s m args below meth c 2 (vx_MQ below (qcP E (poI post)) (xcP E (pxN)) args s 0 0 (bsA E)) hK (0 + 0) (0 + 0) (29 + 3) [(0, .ref this), (1, .ref x6)] sK) (fun x12 hv => ?_))
        replace hw := hv
        clear hv
        refine r_if_ne C 37 dX5_leaveLine_32 (by decide) (fun z13 => ?_) (fun z13 => ?_)
        · replace hw := hw.2 z13
          refine r_aload_n C dX5_leaveLine_37 rfl rfl ?_
          refine r_aload_n C dX5_leaveLine_38 rfl rfl ?_
          refine r_callV (As := [.ref x6]) (st := []) C (m_X5_clearPlaceOf hl hw) v_X5_clearPlaceOf w_252 K7 g1 (by decide) ob7 rfl ⟨leb rfl, leb rfl⟩ ⟨leb rfl, leb rfl⟩ rfl (leb rfl) dX5_leaveLine_39 (fun _ _ z => z.elim) (kkV (K := fun hK sK => WS E p l e (rmOf 4 0 0 88) s m args below meth c 2 (vx_MQ below (qcP E (poI post)) (xcP E (pxN)) args s 0 0 (bsA E)) hK (0 + 0) (0 + 0) (39 + 3) [(0, .ref this), (1, .ref x6)] sK) (fun h14 hv => ?_))
          replace hw := hv
          clear hv
          refine r_aload_n C dX5_leaveLine_42 rfl rfl ?_
          refine r_iconst (v := (3 : Int32)) C dX5_leaveLine_43 (by decide) ?_
          obtain ⟨g15, hw⟩ := hw
          obtain ⟨h16, eh16⟩ : ∃ z, z = sI h14 x6 3 (3 : Int32) := ⟨_, rfl⟩
          replace hw := hw h16 eh16
          refine p_I C K2 ob2 g15 (by decide) 3 (by decide) w_641 (fun _ z => z) rfl (by decide +kernel) (Nat.le_of_ble_eq_true rfl) rfl dX5_leaveLine_44 eh16 ?_
          refine r_aload_n C dX5_leaveLine_47 rfl rfl ?_
          refine r_iconst (v := (-1 : Int32)) C dX5_leaveLine_48 (by decide) ?_
          have g17 : hT h16 x6 = 2 := by rw [eh16]; exact g15
          obtain ⟨h18, eh18⟩ : ∃ z, z = sI h16 x6 4 (-1 : Int32) := ⟨_, rfl⟩
          replace hw := hw h18 eh18
          refine p_I C K2 ob2 g17 (by decide) 4 (by decide) w_643 (fun _ z => z) rfl (by decide +kernel) (Nat.le_of_ble_eq_true rfl) rfl dX5_leaveLine_49 eh18 ?_
          refine r_iconst (v := (1 : Int32)) C dX5_leaveLine_52 (by decide) ?_
          exact r_zret C (Or.inr rfl) dX5_leaveLine_53 (by decide) (by decide) ⟨_, rfl, hw⟩
        · replace hw := hw.1 z13
          exact (r_subk hw trivial)
theorem v_X5_leaveLine : MV yX5_leaveLine cX5_leaveLine 2 (some .boolean) 0 := ⟨w_320, w_319, w_10, w_37, ⟨by decide +kernel, by decide +kernel, by decide +kernel⟩⟩

def wp_X5_isLackingAt (h : Hp) (this : Nat) (p0 : Nat) (p1 : Int32) (post : Int32 → Prop) : Prop :=
(∀ J2 : Int32 → Prop, (∀ (v2_3 : Int32), (((10 : Int32) ≤ v2_3 →
 post (0 : Int32)) ∧ (¬ ((10 : Int32) ≤ v2_3) →
 (hT h this = 7 ∧
 (∃ a3 : Nat, hR h this 0 = some a3 ∧
 (hT h a3 = 23 ∧
 (∃ j5 : Nat, v2_3 = nI j5 ∧ j5 < 2147483648 ∧ j5 < hL h a3 ∧
 (∃ a6 : Nat, hR h a3 j5 = some a6 ∧
 (hT h a6 = 4 ∧
 (∃ x8 : Int32, hI h a6 0 = x8 ∧
 (∀ J32 : Prop, ((J2 (v2_3 + (1 : Int32))) → J32) →
 ((x8 = p1 →
 wp_X5_isLacking h this p0 v2_3 (fun x10 =>
 ((x10 = 0 →
 J32) ∧ (¬ (x10 = 0) →
 post (1 : Int32))))) ∧ (¬ (x8 = p1) →
 J32)))))))))))) → J2 v2_3) →
 J2 (0 : Int32))
set_option maxHeartbeats 4000000 in
set_option maxRecDepth 100000 in
theorem m_X5_isLackingAt {E : Ev} {l : Launch} (hl : l.stackTraces = false) {h : Hp} {this : Nat} {p0 : Nat} {p1 : Int32} {post : Int32 → Prop} (hw : wp_X5_isLackingAt h this p0 p1 post) : MT E l yX5_isLackingAt cX5_isLackingAt 4 (some .boolean) 2 44 0 0 h [.ref this, .ref p0, .int p1] (puI h post) (pxN) := by
  refine MT.of (by decide) hl (Nat.le_of_ble_eq_true rfl) (fun p e s m args below meth c C => ?_)
  unfold wp_X5_isLackingAt at hw
  have C : CX E p l s m args meth c cX5_isLackingAt 4 "TaktLine" "isLackingAt" (some .boolean) [] := C
  show WS E p l e (rmOf 2 0 0 44) s m args below meth c 4 (vx_MQ below (qcP E (puI h post)) (xcP E (pxN)) args s 0 0 (bsA E)) h 0 0 0 [(0, .ref this), (1, .ref p0), (2, .int p1)] []
  refine r_iconst (v := (0 : Int32)) C dX5_isLackingAt_0 (by decide) ?_
  refine r_istore_n C dX5_isLackingAt_1 rfl (by decide) [(0, .ref this), (1, .ref p0), (2, .int p1), (3, .int (0 : Int32))] ⟨rfl, rfl, rfl, rfl, trivial⟩ ?_
  replace hw := hw (fun (v2_3 : Int32) => WS E p l e (rmOf 2 0 0 44) s m args below meth c 4 (vx_MQ below (qcP E (puI h post)) (xcP E (pxN)) args s 0 0 (bsA E)) h 0 0 2 [(0, .ref this), (1, .ref p0), (2, .int p1), (3, .int v2_3)] []) (by
    intro v2_3 hv
    replace hw := hv
    clear hv
    refine r_iload_n C dX5_isLackingAt_2 rfl rfl ?_
    refine r_bipush (v := (10 : Int32)) C dX5_isLackingAt_3 (by decide) ?_
    refine r_icmp_ge C 38 dX5_isLackingAt_5 (by decide) (fun z1 => ?_) (fun z1 => ?_)
    · replace hw := hw.1 z1
      refine r_iconst (v := (0 : Int32)) C dX5_isLackingAt_38 (by decide) ?_
      exact r_zret C (Or.inl rfl) dX5_isLackingAt_39 (by decide) (by decide) ⟨_, rfl, hw, rfl⟩
    · replace hw := hw.2 z1
      refine r_aload_n C dX5_isLackingAt_8 rfl rfl ?_
      obtain ⟨g2, hw⟩ := hw
      obtain ⟨a3, e3, hw⟩ := hw
      refine r_getA C K7 ob7 g2 (by decide) 0 (by decide) w_118 (fun _ z => z) e3 rfl dX5_isLackingAt_9 ?_
      refine r_iload_n C dX5_isLackingAt_12 rfl rfl ?_
      obtain ⟨g4, hw⟩ := hw
      obtain ⟨j5, f5, l5, k5, hw⟩ := hw
      obtain ⟨a6, e6, hw⟩ := hw
      refine a_A C ar23 g4 (by decide) (t0 := 3) rfl f5 l5 k5 e6 dX5_isLackingAt_13 ?_
      obtain ⟨g7, hw⟩ := hw
      obtain ⟨x8, e8, hw⟩ := hw
      refine r_getI C K4 ob4 g7 (by decide) 0 (by decide) w_102 (fun _ z => z) e8 rfl dX5_isLackingAt_14 ?_
      refine r_iload_n C dX5_isLackingAt_17 rfl rfl ?_
      replace hw := hw (WS E p l e (rmOf 2 0 0 44) s m args below meth c 4 (vx_MQ below (qcP E (puI h post)) (xcP E (pxN)) args s 0 0 (bsA E)) h 0 0 32 [(0, .ref this), (1, .ref p0), (2, .int p1), (3, .int v2_3)] []) (by
        intro hv
        replace hw := hv
        clear hv
        refine r_iinc C (v2_3 + (1 : Int32)) dX5_isLackingAt_32 rfl rfl (by decide) [(0, .ref this), (1, .ref p0), (2, .int p1), (3, .int (v2_3 + (1 : Int32)))] ⟨rfl, rfl, rfl, rfl, trivial⟩ ?_
        refine r_goto C 2 dX5_isLackingAt_35 (by decide) ?_
        exact (r_subk hw ⟨rfl, rfl, rfl, rfl, trivial⟩)
        )
      refine r_icmp_ne C 32 dX5_isLackingAt_18 (by decide) (fun z9 => ?_) (fun z9 => ?_)
      · replace hw := hw.2 z9
        exact (r_subk hw ⟨rfl, rfl, rfl, rfl, trivial⟩)
      · replace hw := hw.1 z9
        refine r_aload_n C dX5_isLackingAt_21 rfl rfl ?_
        refine r_aload_n C dX5_isLackingAt_22 rfl rfl ?_
        refine r_iload_n C dX5_isLackingAt_23 rfl rfl ?_
        refine r_callV (As := [.ref p0, .int v2_3]) (st := []) C (m_X5_isLacking hl hw) v_X5_isLacking w_233 K7 g2 (by decide) ob7 rfl ⟨leb rfl, leb rfl⟩ ⟨leb rfl, leb rfl⟩ rfl (leb rfl) dX5_isLackingAt_24 (fun _ _ z => z.elim) (kpI (K := fun hK sK => WS E p l e (rmOf 2 0 0 44) s m args below meth c 4 (vx_MQ below (qcP E (puI h post)) (xcP E (pxN)) args s 0 0 (bsA E)) hK (0 + 0) (0 + 0) (24 + 3) [(0, .ref this), (1, .ref p0), (2, .int p1), (3, .int v2_3)] sK) (fun x10 hv => ?_))
        replace hw := hv
        clear hv
        refine r_if_eq C 32 dX5_isLackingAt_27 (by decide) (fun z11 => ?_) (fun z11 => ?_)
        · replace hw := hw.1 z11
          exact (r_subk hw ⟨rfl, rfl, rfl, rfl, trivial⟩)
        · replace hw := hw.2 z11
          refine r_iconst (v := (1 : Int32)) C dX5_isLackingAt_30 (by decide) ?_
          exact r_zret C (Or.inr rfl) dX5_isLackingAt_31 (by decide) (by decide) ⟨_, rfl, hw, rfl⟩
    )
  exact (r_subk hw ⟨rfl, rfl, rfl, rfl, trivial⟩)
theorem v_X5_isLackingAt : MV yX5_isLackingAt cX5_isLackingAt 4 (some .boolean) 2 := ⟨w_356, w_355, w_18, w_37, ⟨by decide +kernel, by decide +kernel, by decide +kernel⟩⟩

def wp_X5_isDone (h : Hp) (this : Nat) (p0 : Nat) (post : Int32 → Prop) : Prop :=
(hT h p0 = 2 ∧
 (∃ x2 : Int32, hI h p0 4 = x2 ∧
 ((x2 = (6 : Int32) →
 (∃ x14 : Int32, hI h p0 6 = x14 ∧
 (b01 x14 ∧
 post x14))) ∧ (¬ (x2 = (6 : Int32)) →
 (∃ x4 : Int32, hI h p0 4 = x4 ∧
 ((x4 = (5 : Int32) →
 (∃ r11 : Option Nat, hR h p0 5 = r11 ∧
 (∀ J34 : Int32 → Prop, (∀ (t34_0 : Int32), (b01 t34_0 ∧
 post t34_0) → J34 t34_0) →
 ((r11 = none →
 J34 (0 : Int32)) ∧ (∀ x13, r11 = some x13 →
 J34 (1 : Int32)))))) ∧ (¬ (x4 = (5 : Int32)) →
 (∃ x6 : Int32, hI h p0 4 = x6 ∧
 (hT h this = 7 ∧
 wp_X5_isLackingAt h this p0 x6 (fun x7 =>
 (∀ J52 : Int32 → Prop, (∀ (t52_0 : Int32), (b01 t52_0 ∧
 post t52_0) → J52 t52_0) →
 ((x7 = 0 →
 J52 (1 : Int32)) ∧ (¬ (x7 = 0) →
 J52 (0 : Int32))))))))))))))
set_option maxHeartbeats 4000000 in
set_option maxRecDepth 100000 in
theorem m_X5_isDone {E : Ev} {l : Launch} (hl : l.stackTraces = false) {h : Hp} {this : Nat} {p0 : Nat} {post : Int32 → Prop} (hw : wp_X5_isDone h this p0 post) : MT E l yX5_isDone cX5_isDone 2 (some .boolean) 3 67 0 0 h [.ref this, .ref p0] (puI h post) (pxN) := by
  refine MT.of (by decide) hl (Nat.le_of_ble_eq_true rfl) (fun p e s m args below meth c C => ?_)
  unfold wp_X5_isDone at hw
  have C : CX E p l s m args meth c cX5_isDone 2 "TaktLine" "isDone" (some .boolean) [] := C
  show WS E p l e (rmOf 3 0 0 67) s m args below meth c 2 (vx_MQ below (qcP E (puI h post)) (xcP E (pxN)) args s 0 0 (bsA E)) h 0 0 0 [(0, .ref this), (1, .ref p0)] []
  refine r_aload_n C dX5_isDone_0 rfl rfl ?_
  obtain ⟨g1, hw⟩ := hw
  obtain ⟨x2, e2, hw⟩ := hw
  refine r_getI C K2 ob2 g1 (by decide) 4 (by decide) w_643 (fun _ z => z) e2 rfl dX5_isDone_1 ?_
  refine r_bipush (v := (6 : Int32)) C dX5_isDone_4 (by decide) ?_
  refine r_icmp_ne C 14 dX5_isDone_6 (by decide) (fun z3 => ?_) (fun z3 => ?_)
  · replace hw := hw.2 z3
    refine r_aload_n C dX5_isDone_14 rfl rfl ?_
    obtain ⟨x4, e4, hw⟩ := hw
    refine r_getI C K2 ob2 g1 (by decide) 4 (by decide) w_643 (fun _ z => z) e4 rfl dX5_isDone_15 ?_
    refine r_iconst (v := (5 : Int32)) C dX5_isDone_18 (by decide) ?_
    refine r_icmp_ne C 35 dX5_isDone_19 (by decide) (fun z5 => ?_) (fun z5 => ?_)
    · replace hw := hw.2 z5
      refine r_aload_n C dX5_isDone_35 rfl rfl ?_
      refine r_aload_n C dX5_isDone_36 rfl rfl ?_
      refine r_aload_n C dX5_isDone_37 rfl rfl ?_
      obtain ⟨x6, e6, hw⟩ := hw
      refine r_getI C K2 ob2 g1 (by decide) 4 (by decide) w_643 (fun _ z => z) e6 rfl dX5_isDone_38 ?_
      obtain ⟨g8, hw⟩ := hw
      refine r_callV (As := [.ref p0, .int x6]) (st := []) C (m_X5_isLackingAt hl hw) v_X5_isLackingAt w_353 K7 g8 (by decide) ob7 rfl ⟨leb rfl, leb rfl⟩ ⟨leb rfl, leb rfl⟩ rfl (leb rfl) dX5_isDone_41 (fun _ _ z => z.elim) (kpI (K := fun hK sK => WS E p l e (rmOf 3 0 0 67) s m args below meth c 2 (vx_MQ below (qcP E (puI h post)) (xcP E (pxN)) args s 0 0 (bsA E)) hK (0 + 0) (0 + 0) (41 + 3) [(0, .ref this), (1, .ref p0)] sK) (fun x7 hv => ?_))
      replace hw := hv
      clear hv
      replace hw := hw (fun (t52_0 : Int32) => WS E p l e (rmOf 3 0 0 67) s m args below meth c 2 (vx_MQ below (qcP E (puI h post)) (xcP E (pxN)) args s 0 0 (bsA E)) h 0 0 52 [] [.int t52_0]) (by
        intro t52_0 hv
        replace hw := hv
        clear hv
        obtain ⟨y9, hw⟩ := hw
        exact r_zret C y9 dX5_isDone_52 (by decide) (by decide) ⟨_, rfl, hw, rfl⟩
        )
      refine r_if_ne C 51 dX5_isDone_44 (by decide) (fun z10 => ?_) (fun z10 => ?_)
      · replace hw := hw.2 z10
        refine r_iconst (v := (0 : Int32)) C dX5_isDone_51 (by decide) ?_
        exact (r_subk hw trivial)
      · replace hw := hw.1 z10
        refine r_iconst (v := (1 : Int32)) C dX5_isDone_47 (by decide) ?_
        refine r_goto C 52 dX5_isDone_48 (by decide) ?_
        exact (r_subk hw trivial)
    · replace hw := hw.1 z5
      refine r_aload_n C dX5_isDone_22 rfl rfl ?_
      obtain ⟨r11, e11, hw⟩ := hw
      refine r_getR C K2 ob2 g1 (by decide) 5 (by decide) w_645 (fun _ z => z) e11 rfl dX5_isDone_23 ?_
      replace hw := hw (fun (t34_0 : Int32) => WS E p l e (rmOf 3 0 0 67) s m args below meth c 2 (vx_MQ below (qcP E (puI h post)) (xcP E (pxN)) args s 0 0 (bsA E)) h 0 0 34 [] [.int t34_0]) (by
        intro t34_0 hv
        replace hw := hv
        clear hv
        obtain ⟨y12, hw⟩ := hw
        exact r_zret C y12 dX5_isDone_34 (by decide) (by decide) ⟨_, rfl, hw, rfl⟩
        )
      refine r_ifnull C 33 dX5_isDone_26 (by decide) (fun z13 => ?_) (fun x13 z13 => ?_)
      · replace hw := hw.1 z13
        subst z13
        refine r_iconst (v := (0 : Int32)) C dX5_isDone_33 (by decide) ?_
        exact (r_subk hw trivial)
      · replace hw := hw.2 x13 z13
        subst z13
        refine r_iconst (v := (1 : Int32)) C dX5_isDone_29 (by decide) ?_
        refine r_goto C 34 dX5_isDone_30 (by decide) ?_
        exact (r_subk hw trivial)
  · replace hw := hw.1 z3
    refine r_aload_n C dX5_isDone_9 rfl rfl ?_
    obtain ⟨x14, e14, hw⟩ := hw
    refine r_getI C K2 ob2 g1 (by decide) 6 (by decide) w_647 (fun _ z => z) e14 rfl dX5_isDone_10 ?_
    obtain ⟨y15, hw⟩ := hw
    exact r_zret C y15 dX5_isDone_13 (by decide) (by decide) ⟨_, rfl, hw, rfl⟩
theorem v_X5_isDone : MV yX5_isDone cX5_isDone 2 (some .boolean) 1 := ⟨w_352, w_351, w_17, w_37, ⟨by decide +kernel, by decide +kernel, by decide +kernel⟩⟩

def wp_X5_enterLine (h : Hp) (this : Nat) (p0 : Nat) (p1 : Int32) (post : Hp → Prop) : Prop :=
(hT h this = 7 ∧
 wp_X5_clearPlaceOf h this p0 (fun h1 =>
 (hT h1 p0 = 2 ∧
 (∀ h4, h4 = sI h1 p0 3 (1 : Int32) →
 (∀ h6, h6 = sI h4 p0 4 p1 →
 (hT h6 this = 7 ∧
 (∃ a8 : Nat, hR h6 this 6 = some a8 ∧
 (hT h6 a8 = 25 ∧
 (∃ j10 : Nat, p1 = nI j10 ∧ j10 < 2147483648 ∧ j10 < hL h6 a8 ∧
 (∀ h12, h12 = sR h6 a8 j10 (some p0) →
 post h12))))))))))
set_option maxHeartbeats 4000000 in
set_option maxRecDepth 100000 in
theorem m_X5_enterLine {E : Ev} {l : Launch} (hl : l.stackTraces = false) {h : Hp} {this : Nat} {p0 : Nat} {p1 : Int32} {post : Hp → Prop} (hw : wp_X5_enterLine h this p0 p1 post) : MT E l yX5_enterLine cX5_enterLine 3 none 2 41 0 0 h [.ref this, .ref p0, .int p1] (poV post) (pxN) := by
  refine MT.of (by decide) hl (Nat.le_of_ble_eq_true rfl) (fun p e s m args below meth c C => ?_)
  unfold wp_X5_enterLine at hw
  have C : CX E p l s m args meth c cX5_enterLine 3 "TaktLine" "enterLine" none [] := C
  show WS E p l e (rmOf 2 0 0 41) s m args below meth c 3 (vx_MQ below (qcP E (poV post)) (xcP E (pxN)) args s 0 0 (bsA E)) h 0 0 0 [(0, .ref this), (1, .ref p0), (2, .int p1)] []
  refine r_aload_n C dX5_enterLine_0 rfl rfl ?_
  refine r_aload_n C dX5_enterLine_1 rfl rfl ?_
  obtain ⟨g2, hw⟩ := hw
  refine r_callV (As := [.ref p0]) (st := []) C (m_X5_clearPlaceOf hl hw) v_X5_clearPlaceOf w_252 K7 g2 (by decide) ob7 rfl ⟨leb rfl, leb rfl⟩ ⟨leb rfl, leb rfl⟩ rfl (leb rfl) dX5_enterLine_2 (fun _ _ z => z.elim) (kkV (K := fun hK sK => WS E p l e (rmOf 2 0 0 41) s m args below meth c 3 (vx_MQ below (qcP E (poV post)) (xcP E (pxN)) args s 0 0 (bsA E)) hK (0 + 0) (0 + 0) (2 + 3) [(0, .ref this), (1, .ref p0), (2, .int p1)] sK) (fun h1 hv => ?_))
  replace hw := hv
  clear hv
  refine r_aload_n C dX5_enterLine_5 rfl rfl ?_
  refine r_iconst (v := (1 : Int32)) C dX5_enterLine_6 (by decide) ?_
  obtain ⟨g3, hw⟩ := hw
  obtain ⟨h4, eh4⟩ : ∃ z, z = sI h1 p0 3 (1 : Int32) := ⟨_, rfl⟩
  replace hw := hw h4 eh4
  refine p_I C K2 ob2 g3 (by decide) 3 (by decide) w_641 (fun _ z => z) rfl (by decide +kernel) (Nat.le_of_ble_eq_true rfl) rfl dX5_enterLine_7 eh4 ?_
  refine r_aload_n C dX5_enterLine_10 rfl rfl ?_
  refine r_iload_n C dX5_enterLine_11 rfl rfl ?_
  have g5 : hT h4 p0 = 2 := by rw [eh4]; exact g3
  obtain ⟨h6, eh6⟩ : ∃ z, z = sI h4 p0 4 p1 := ⟨_, rfl⟩
  replace hw := hw h6 eh6
  refine p_I C K2 ob2 g5 (by decide) 4 (by decide) w_643 (fun _ z => z) rfl (by decide +kernel) (Nat.le_of_ble_eq_true rfl) rfl dX5_enterLine_12 eh6 ?_
  refine r_aload_n C dX5_enterLine_15 rfl rfl ?_
  obtain ⟨g7, hw⟩ := hw
  obtain ⟨a8, e8, hw⟩ := hw
  refine r_getA C K7 ob7 g7 (by decide) 6 (by decide) w_124 (fun _ z => z) e8 rfl dX5_enterLine_16 ?_
  refine r_iload_n C dX5_enterLine_19 rfl rfl ?_
  refine r_aload_n C dX5_enterLine_20 rfl rfl ?_
  obtain ⟨g9, hw⟩ := hw
  obtain ⟨j10, f10, l10, k10, hw⟩ := hw
  have g11 : hT h6 p0 = 2 := by rw [eh6]; exact g5
  obtain ⟨h12, eh12⟩ : ∃ z, z = sR h6 a8 j10 (some p0) := ⟨_, rfl⟩
  replace hw := hw h12 eh12
  refine s_A C K2 (fun f => ar25) g9 (by decide) (t0 := 5) rfl f10 l10 k10 g11 ob2 (by decide) dX5_enterLine_21 eh12 ?_
  exact r_vret C dX5_enterLine_22 (by decide) (by decide) ⟨rfl, hw⟩
theorem v_X5_enterLine : MV yX5_enterLine cX5_enterLine 3 none 2 := ⟨w_360, w_359, w_19, w_37, ⟨by decide +kernel, by decide +kernel, by decide +kernel⟩⟩

def wp_X5_moveOn (h : Hp) (this : Nat) (post : Hp → Prop) : Prop :=
(∀ J3 : Int32 → Hp → Prop, (∀ (v3_1 : Int32) (h3_ : Hp), ((v3_1 < 0 →
 post h3_) ∧ (¬ (v3_1 < 0) →
 (hT h3_ this = 7 ∧
 (∃ a3 : Nat, hR h3_ this 6 = some a3 ∧
 (hT h3_ a3 = 25 ∧
 (∃ j5 : Nat, v3_1 = nI j5 ∧ j5 < 2147483648 ∧ j5 < hL h3_ a3 ∧
 (∃ r6 : Option Nat, hR h3_ a3 j5 = r6 ∧
 (∀ J45 : Hp → Prop, (∀ (h45_ : Hp), (J3 (v3_1 + (-1 : Int32)) h45_) → J45 h45_) →
 ((r6 = none →
 J45 h3_) ∧ (∀ x7, r6 = some x7 →
 (∃ a8 : Nat, hR h3_ this 6 = some a8 ∧
 (hT h3_ a8 = 25 ∧
 (∃ j10 : Nat, v3_1 + (1 : Int32) = nI j10 ∧ j10 < 2147483648 ∧ j10 < hL h3_ a8 ∧
 (∃ r11 : Option Nat, hR h3_ a8 j10 = r11 ∧
 ((r11 = none →
 wp_X5_isDone h3_ this x7 (fun x13 =>
 ((x13 = 0 →
 J45 h3_) ∧ (¬ (x13 = 0) →
 wp_X5_enterLine h3_ this x7 (v3_1 + (1 : Int32)) (fun h15 =>
 J45 h15))))) ∧ (∀ x12, r11 = some x12 →
 J45 h3_)))))))))))))))) → J3 v3_1 h3_) →
 J3 (6 : Int32) h)
set_option maxHeartbeats 4000000 in
set_option maxRecDepth 100000 in
theorem m_X5_moveOn {E : Ev} {l : Launch} (hl : l.stackTraces = false) {h : Hp} {this : Nat} {post : Hp → Prop} (hw : wp_X5_moveOn h this post) : MT E l yX5_moveOn cX5_moveOn 3 none 4 88 0 0 h [.ref this] (poV post) (pxN) := by
  refine MT.of (by decide) hl (Nat.le_of_ble_eq_true rfl) (fun p e s m args below meth c C => ?_)
  unfold wp_X5_moveOn at hw
  have C : CX E p l s m args meth c cX5_moveOn 3 "TaktLine" "moveOn" none [] := C
  show WS E p l e (rmOf 4 0 0 88) s m args below meth c 3 (vx_MQ below (qcP E (poV post)) (xcP E (pxN)) args s 0 0 (bsA E)) h 0 0 0 [(0, .ref this)] []
  refine r_bipush (v := (6 : Int32)) C dX5_moveOn_0 (by decide) ?_
  refine r_istore_n C dX5_moveOn_2 rfl (by decide) [(0, .ref this), (1, .int (6 : Int32))] ⟨rfl, rfl, trivial⟩ ?_
  replace hw := hw (fun (v3_1 : Int32) (h3_ : Hp) => WS E p l e (rmOf 4 0 0 88) s m args below meth c 3 (vx_MQ below (qcP E (poV post)) (xcP E (pxN)) args s 0 0 (bsA E)) h3_ 0 0 3 [(0, .ref this), (1, .int v3_1)] []) (by
    intro v3_1 h3_ hv
    replace hw := hv
    clear hv
    refine r_iload_n C dX5_moveOn_3 rfl rfl ?_
    refine r_if_lt C 51 dX5_moveOn_4 (by decide) (fun z1 => ?_) (fun z1 => ?_)
    · replace hw := hw.1 z1
      exact r_vret C dX5_moveOn_51 (by decide) (by decide) ⟨rfl, hw⟩
    · replace hw := hw.2 z1
      refine r_aload_n C dX5_moveOn_7 rfl rfl ?_
      obtain ⟨g2, hw⟩ := hw
      obtain ⟨a3, e3, hw⟩ := hw
      refine r_getA C K7 ob7 g2 (by decide) 6 (by decide) w_124 (fun _ z => z) e3 rfl dX5_moveOn_8 ?_
      refine r_iload_n C dX5_moveOn_11 rfl rfl ?_
      obtain ⟨g4, hw⟩ := hw
      obtain ⟨j5, f5, l5, k5, hw⟩ := hw
      obtain ⟨r6, e6, hw⟩ := hw
      refine a_R C ar25 g4 (by decide) (t0 := 5) rfl f5 l5 k5 e6 dX5_moveOn_12 ?_
      refine r_astoreq_n C dX5_moveOn_13 rfl (by decide) [(0, .ref this), (1, .int v3_1), (2, va_rf r6)] ⟨rfl, rfl, rfl, trivial⟩ ?_
      refine r_aloadq_n C dX5_moveOn_14 rfl rfl ?_
      replace hw := hw (fun (h45_ : Hp) => WS E p l e (rmOf 4 0 0 88) s m args below meth c 3 (vx_MQ below (qcP E (poV post)) (xcP E (pxN)) args s 0 0 (bsA E)) h45_ 0 0 45 [(0, .ref this), (1, .int v3_1)] []) (by
        intro h45_ hv
        replace hw := hv
        clear hv
        refine r_iinc C (v3_1 + (-1 : Int32)) dX5_moveOn_45 rfl rfl (by decide) [(0, .ref this), (1, .int (v3_1 + (-1 : Int32)))] ⟨rfl, rfl, trivial⟩ ?_
        refine r_goto C 3 dX5_moveOn_48 (by decide) ?_
        exact (r_subk hw ⟨rfl, rfl, trivial⟩)
        )
      refine r_ifnull C 45 dX5_moveOn_15 (by decide) (fun z7 => ?_) (fun x7 z7 => ?_)
      · replace hw := hw.1 z7
        subst z7
        exact (r_subk hw ⟨rfl, rfl, trivial⟩)
      · replace hw := hw.2 x7 z7
        subst z7
        refine r_aload_n C dX5_moveOn_18 rfl rfl ?_
        obtain ⟨a8, e8, hw⟩ := hw
        refine r_getA C K7 ob7 g2 (by decide) 6 (by decide) w_124 (fun _ z => z) e8 rfl dX5_moveOn_19 ?_
        refine r_iload_n C dX5_moveOn_22 rfl rfl ?_
        refine r_iconst (v := (1 : Int32)) C dX5_moveOn_23 (by decide) ?_
        refine r_iadd C dX5_moveOn_24 ?_
        obtain ⟨g9, hw⟩ := hw
        obtain ⟨j10, f10, l10, k10, hw⟩ := hw
        obtain ⟨r11, e11, hw⟩ := hw
        refine a_R C ar25 g9 (by decide) (t0 := 5) rfl f10 l10 k10 e11 dX5_moveOn_25 ?_
        refine r_ifnonnull C 45 dX5_moveOn_26 (by decide) (fun x12 z12 => ?_) (fun z12 => ?_)
        · replace hw := hw.2 x12 z12
          subst z12
          exact (r_subk hw ⟨rfl, rfl, trivial⟩)
        · replace hw := hw.1 z12
          subst z12
          refine r_aload_n C dX5_moveOn_29 rfl rfl ?_
          refine r_aload_n C dX5_moveOn_30 rfl rfl ?_
          refine r_callV (As := [.ref x7]) (st := []) C (m_X5_isDone hl hw) v_X5_isDone w_349 K7 g2 (by decide) ob7 rfl ⟨leb rfl, leb rfl⟩ ⟨leb rfl, leb rfl⟩ rfl (leb rfl) dX5_moveOn_31 (fun _ _ z => z.elim) (kpI (K := fun hK sK => WS E p l e (rmOf 4 0 0 88) s m args below meth c 3 (vx_MQ below (qcP E (poV post)) (xcP E (pxN)) args s 0 0 (bsA E)) hK (0 + 0) (0 + 0) (31 + 3) [(0, .ref this), (1, .int v3_1), (2, .ref x7)] sK) (fun x13 hv => ?_))
          replace hw := hv
          clear hv
          refine r_if_eq C 45 dX5_moveOn_34 (by decide) (fun z14 => ?_) (fun z14 => ?_)
          · replace hw := hw.1 z14
            exact (r_subk hw ⟨rfl, rfl, trivial⟩)
          · replace hw := hw.2 z14
            refine r_aload_n C dX5_moveOn_37 rfl rfl ?_
            refine r_aload_n C dX5_moveOn_38 rfl rfl ?_
            refine r_iload_n C dX5_moveOn_39 rfl rfl ?_
            refine r_iconst (v := (1 : Int32)) C dX5_moveOn_40 (by decide) ?_
            refine r_iadd C dX5_moveOn_41 ?_
            refine r_callV (As := [.ref x7, .int (v3_1 + (1 : Int32))]) (st := []) C (m_X5_enterLine hl hw) v_X5_enterLine w_357 K7 g2 (by decide) ob7 rfl ⟨leb rfl, leb rfl⟩ ⟨leb rfl, leb rfl⟩ rfl (leb rfl) dX5_moveOn_42 (fun _ _ z => z.elim) (kkV (K := fun hK sK => WS E p l e (rmOf 4 0 0 88) s m args below meth c 3 (vx_MQ below (qcP E (poV post)) (xcP E (pxN)) args s 0 0 (bsA E)) hK (0 + 0) (0 + 0) (42 + 3) [(0, .ref this), (1, .int v3_1), (2, .ref x7)] sK) (fun h15 hv => ?_))
            replace hw := hv
            clear hv
            exact (r_subk hw ⟨rfl, rfl, trivial⟩)
    )
  exact (r_subk hw ⟨rfl, rfl, trivial⟩)
theorem v_X5_moveOn : MV yX5_moveOn cX5_moveOn 3 none 0 := ⟨w_348, w_347, w_16, w_37, ⟨by decide +kernel, by decide +kernel, by decide +kernel⟩⟩

def wp_X5_comeFromLane (h : Hp) (this : Nat) (post : Hp → Prop) : Prop :=
(hT h this = 7 ∧
 (∃ a2 : Nat, hR h this 4 = some a2 ∧
 (hT h a2 = 1 ∧
 wp_Jx4a65c_size_8abf5 h a2 (fun x3 =>
 (∀ J12 : Int32 → Int32 → Hp → Prop, (∀ (v12_2 : Int32) (v12_3 : Int32) (h12_ : Hp), (∀ J97 : Prop, ((post h12_) → J97) →
 ((x3 ≤ v12_3 →
 J97) ∧ (¬ (x3 ≤ v12_3) →
 (hT h12_ this = 7 ∧
 (∃ a7 : Nat, hR h12_ this 4 = some a7 ∧
 (hT h12_ a7 = 1 ∧
 wp_Jx4a65c_size_8abf5 h12_ a7 (fun x8 =>
 ((x8 ≤ v12_2 →
 J97) ∧ (¬ (x8 ≤ v12_2) →
 (∃ a11 : Nat, hR h12_ this 4 = some a11 ∧
 (hT h12_ a11 = 1 ∧
 wp_Jx4a65c_get_915e3 h12_ a11 v12_2 (fun a12 =>
 (hT h12_ a12 = 2 ∧
 (∃ x15 : Int32, hI h12_ a12 4 = x15 ∧
 wp_X5_isStation h12_ x15 (fun x16 =>
 (∀ J91 : Int32 → Hp → Prop, (∀ (v91_2 : Int32) (h91_ : Hp), (J12 v91_2 (v12_3 + (1 : Int32)) h91_) → J91 v91_2 h91_) →
 (∀ J88 : Prop, ((J91 (v12_2 + (1 : Int32)) h12_) → J88) →
 ((x16 = 0 →
 J88) ∧ (¬ (x16 = 0) →
 (∃ a18 : Nat, hR h12_ this 6 = some a18 ∧
 (∃ x19 : Int32, hI h12_ a12 4 = x19 ∧
 (hT h12_ a18 = 25 ∧
 (∃ j21 : Nat, x19 = nI j21 ∧ j21 < 2147483648 ∧ j21 < hL h12_ a18 ∧
 (∃ r22 : Option Nat, hR h12_ a18 j21 = r22 ∧
 ((r22 = none →
 (∃ a24 : Nat, hR h12_ this 4 = some a24 ∧
 (hT h12_ a24 = 1 ∧
 wp_Jx4a65c_remove_915e3 h12_ a24 v12_2 (fun a25 h25 =>
 (hT h25 a12 = 2 ∧
 (∃ x28 : Int32, hI h25 a12 4 = x28 ∧
 (hT h25 this = 7 ∧
 wp_X5_enterLine h25 this a12 x28 (fun h29 =>
 J91 v12_2 h29)))))))) ∧ (∀ x23, r22 = some x23 →
 J88)))))))))))))))))))))))))) → J12 v12_2 v12_3 h12_) →
 J12 (0 : Int32) (0 : Int32) h)))))
set_option maxHeartbeats 4000000 in
set_option maxRecDepth 100000 in
theorem m_X5_comeFromLane {E : Ev} {l : Launch} (hl : l.stackTraces = false) {h : Hp} {this : Nat} {post : Hp → Prop} (hw : wp_X5_comeFromLane h this post) : MT E l yX5_comeFromLane cX5_comeFromLane 5 none 3 86 0 0 h [.ref this] (poV post) (pxN) := by
  refine MT.of (by decide) hl (Nat.le_of_ble_eq_true rfl) (fun p e s m args below meth c C => ?_)
  unfold wp_X5_comeFromLane at hw
  have C : CX E p l s m args meth c cX5_comeFromLane 5 "TaktLine" "comeFromLane" none [] := C
  show WS E p l e (rmOf 3 0 0 86) s m args below meth c 5 (vx_MQ below (qcP E (poV post)) (xcP E (pxN)) args s 0 0 (bsA E)) h 0 0 0 [(0, .ref this)] []
  refine r_aload_n C dX5_comeFromLane_0 rfl rfl ?_
  obtain ⟨g1, hw⟩ := hw
  obtain ⟨a2, e2, hw⟩ := hw
  refine r_getA C K7 ob7 g1 (by decide) 4 (by decide) w_122 (fun _ z => z) e2 rfl dX5_comeFromLane_1 ?_
  obtain ⟨g4, hw⟩ := hw
  refine r_callV (As := []) (st := []) C (m_Jx4a65c_size_8abf5 hl hw) v_Jx4a65c_size_8abf5 w_365 K1 g4 (by decide) ob1 rfl ⟨leb rfl, leb rfl⟩ ⟨leb rfl, leb rfl⟩ rfl (leb rfl) dX5_comeFromLane_4 (fun _ _ z => z.elim) (kpI (K := fun hK sK => WS E p l e (rmOf 3 0 0 86) s m args below meth c 5 (vx_MQ below (qcP E (poV post)) (xcP E (pxN)) args s 0 0 (bsA E)) hK (0 + 0) (0 + 0) (4 + 3) [(0, .ref this)] sK) (fun x3 hv => ?_))
  replace hw := hv
  clear hv
  refine r_istore_n C dX5_comeFromLane_7 rfl (by decide) [(0, .ref this), (1, .int x3)] ⟨rfl, rfl, trivial⟩ ?_
  refine r_iconst (v := (0 : Int32)) C dX5_comeFromLane_8 (by decide) ?_
  refine r_istore_n C dX5_comeFromLane_9 rfl (by decide) [(0, .ref this), (1, .int x3), (2, .int (0 : Int32))] ⟨rfl, rfl, rfl, trivial⟩ ?_
  refine r_iconst (v := (0 : Int32)) C dX5_comeFromLane_10 (by decide) ?_
  refine r_istore_n C dX5_comeFromLane_11 rfl (by decide) [(0, .ref this), (1, .int x3), (2, .int (0 : Int32)), (3, .int (0 : Int32))] ⟨rfl, rfl, rfl, rfl, trivial⟩ ?_
  replace hw := hw (fun (v12_2 : Int32) (v12_3 : Int32) (h12_ : Hp) => WS E p l e (rmOf 3 0 0 86) s m args below meth c 5 (vx_MQ below (qcP E (poV post)) (xcP E (pxN)) args s 0 0 (bsA E)) h12_ 0 0 12 [(0, .ref this), (1, .int x3), (2, .int v12_2), (3, .int v12_3)] []) (by
    intro v12_2 v12_3 h12_ hv
    replace hw := hv
    clear hv
    refine r_iload_n C dX5_comeFromLane_12 rfl rfl ?_
    refine r_iload_n C dX5_comeFromLane_13 rfl rfl ?_
    replace hw := hw (WS E p l e (rmOf 3 0 0 86) s m args below meth c 5 (vx_MQ below (qcP E (poV post)) (xcP E (pxN)) args s 0 0 (bsA E)) h12_ 0 0 97 [] []) (by
      intro hv
      replace hw := hv
      clear hv
      exact r_vret C dX5_comeFromLane_97 (by decide) (by decide) ⟨rfl, hw⟩
      )
    refine r_icmp_ge C 97 dX5_comeFromLane_14 (by decide) (fun z5 => ?_) (fun z5 => ?_)
    · replace hw := hw.1 z5
      exact (r_subk hw trivial)
    · replace hw := hw.2 z5
      refine r_iload_n C dX5_comeFromLane_17 rfl rfl ?_
      refine r_aload_n C dX5_comeFromLane_18 rfl rfl ?_
      obtain ⟨g6, hw⟩ := hw
      obtain ⟨a7, e7, hw⟩ := hw
      refine r_getA C K7 ob7 g6 (by decide) 4 (by decide) w_122 (fun _ z => z) e7 rfl dX5_comeFromLane_19 ?_
      obtain ⟨g9, hw⟩ := hw
      refine r_callV (As := []) (st := [.int v12_2]) C (m_Jx4a65c_size_8abf5 hl hw) v_Jx4a65c_size_8abf5 w_365 K1 g9 (by decide) ob1 rfl ⟨leb rfl, leb rfl⟩ ⟨leb rfl, leb rfl⟩ rfl (leb rfl) dX5_comeFromLane_22 (fun _ _ z => z.elim) (kpI (K := fun hK sK => WS E p l e (rmOf 3 0 0 86) s m args below meth c 5 (vx_MQ below (qcP E (poV post)) (xcP E (pxN)) args s 0 0 (bsA E)) hK (0 + 0) (0 + 0) (22 + 3) [(0, .ref this), (1, .int x3), (2, .int v12_2), (3, .int v12_3)] sK) (fun x8 hv => ?_))
      replace hw := hv
      clear hv
      refine r_icmp_ge C 97 dX5_comeFromLane_25 (by decide) (fun z10 => ?_) (fun z10 => ?_)
      · replace hw := hw.1 z10
        exact (r_subk hw trivial)
      · replace hw := hw.2 z10
        refine r_aload_n C dX5_comeFromLane_28 rfl rfl ?_
        obtain ⟨a11, e11, hw⟩ := hw
        refine r_getA C K7 ob7 g6 (by decide) 4 (by decide) w_122 (fun _ z => z) e11 rfl dX5_comeFromLane_29 ?_
        refine r_iload_n C dX5_comeFromLane_32 rfl rfl ?_
        obtain ⟨g13, hw⟩ := hw
        refine r_callV (As := [.int v12_2]) (st := []) C (m_Jx4a65c_get_915e3 hl hw) v_Jx4a65c_get_915e3 w_369 K1 g13 (by decide) ob1 rfl ⟨leb rfl, leb rfl⟩ ⟨leb rfl, leb rfl⟩ rfl (leb rfl) dX5_comeFromLane_33 (fun _ _ z => z.elim) (kpA (K := fun hK sK => WS E p l e (rmOf 3 0 0 86) s m args below meth c 5 (vx_MQ below (qcP E (poV post)) (xcP E (pxN)) args s 0 0 (bsA E)) hK (0 + 0) (0 + 0) (33 + 3) [(0, .ref this), (1, .int x3), (2, .int v12_2), (3, .int v12_3)] sK) (fun a12 hv => ?_))
        replace hw := hv
        clear hv
        obtain ⟨g14, hw⟩ := hw
        refine r_cast (r := some a12) (t := 2) C K2 w_94 (fun x z => by cases z; exact g14) (by decide) (fun x => ob2) dX5_comeFromLane_36 ?_
        refine r_astore C dX5_comeFromLane_39 (by decide) [(0, .ref this), (1, .int x3), (2, .int v12_2), (3, .int v12_3), (4, .ref a12)] ⟨rfl, rfl, rfl, rfl, rfl, trivial⟩ ?_
        refine r_aload C dX5_comeFromLane_41 rfl ?_
        obtain ⟨x15, e15, hw⟩ := hw
        refine r_getI C K2 ob2 g14 (by decide) 4 (by decide) w_643 (fun _ z => z) e15 rfl dX5_comeFromLane_43 ?_
        refine r_callS (As := [.int x15]) (st := []) C (m_X5_isStation hl hw) v_X5_isStation w_256 rfl ⟨leb rfl, leb rfl⟩ ⟨leb rfl, leb rfl⟩ rfl (leb rfl) dX5_comeFromLane_46 (fun _ _ z => z.elim) (kpI (K := fun hK sK => WS E p l e (rmOf 3 0 0 86) s m args below meth c 5 (vx_MQ below (qcP E (poV post)) (xcP E (pxN)) args s 0 0 (bsA E)) hK (0 + 0) (0 + 0) (46 + 3) [(0, .ref this), (1, .int x3), (2, .int v12_2), (3, .int v12_3), (4, .ref a12)] sK) (fun x16 hv => ?_))
        replace hw := hv
        clear hv
        replace hw := hw (fun (v91_2 : Int32) (h91_ : Hp) => WS E p l e (rmOf 3 0 0 86) s m args below meth c 5 (vx_MQ below (qcP E (poV post)) (xcP E (pxN)) args s 0 0 (bsA E)) h91_ 0 0 91 [(0, .ref this), (1, .int x3), (2, .int v91_2), (3, .int v12_3)] []) (by
          intro v91_2 h91_ hv
          replace hw := hv
          clear hv
          refine r_iinc C (v12_3 + (1 : Int32)) dX5_comeFromLane_91 rfl rfl (by decide) [(0, .ref this), (1, .int x3), (2, .int v91_2), (3, .int (v12_3 + (1 : Int32)))] ⟨rfl, rfl, rfl, rfl, trivial⟩ ?_
          refine r_goto C 12 dX5_comeFromLane_94 (by decide) ?_
          exact (r_subk hw ⟨rfl, rfl, rfl, rfl, trivial⟩)
          )
        replace hw := hw (WS E p l e (rmOf 3 0 0 86) s m args below meth c 5 (vx_MQ below (qcP E (poV post)) (xcP E (pxN)) args s 0 0 (bsA E)) h12_ 0 0 88 [(0, .ref this), (1, .int x3), (2, .int v12_2), (3, .int v12_3)] []) (by
          intro hv
          replace hw := hv
          clear hv
          refine r_iinc C (v12_2 + (1 : Int32)) dX5_comeFromLane_88 rfl rfl (by decide) [(0, .ref this), (1, .int x3), (2, .int (v12_2 + (1 : Int32))), (3, .int v12_3)] ⟨rfl, rfl, rfl, rfl, trivial⟩ ?_
          exact (r_subk hw ⟨rfl, rfl, rfl, rfl, trivial⟩)
          )
        refine r_if_eq C 88 dX5_comeFromLane_49 (by decide) (fun z17 => ?_) (fun z17 => ?_)
        · replace hw := hw.1 z17
          exact (r_subk hw ⟨rfl, rfl, rfl, rfl, trivial⟩)
        · replace hw := hw.2 z17
          refine r_aload_n C dX5_comeFromLane_52 rfl rfl ?_
          obtain ⟨a18, e18, hw⟩ := hw
          refine r_getA C K7 ob7 g6 (by decide) 6 (by decide) w_124 (fun _ z => z) e18 rfl dX5_comeFromLane_53 ?_
          refine r_aload C dX5_comeFromLane_56 rfl ?_
          obtain ⟨x19, e19, hw⟩ := hw
          refine r_getI C K2 ob2 g14 (by decide) 4 (by decide) w_643 (fun _ z => z) e19 rfl dX5_comeFromLane_58 ?_
          obtain ⟨g20, hw⟩ := hw
          obtain ⟨j21, f21, l21, k21, hw⟩ := hw
          obtain ⟨r22, e22, hw⟩ := hw
          refine a_R C ar25 g20 (by decide) (t0 := 5) rfl f21 l21 k21 e22 dX5_comeFromLane_61 ?_
          refine r_ifnonnull C 88 dX5_comeFromLane_62 (by decide) (fun x23 z23 => ?_) (fun z23 => ?_)
          · replace hw := hw.2 x23 z23
            subst z23
            exact (r_subk hw ⟨rfl, rfl, rfl, rfl, trivial⟩)
          · replace hw := hw.1 z23
            subst z23
            refine r_aload_n C dX5_comeFromLane_65 rfl rfl ?_
            obtain ⟨a24, e24, hw⟩ := hw
            refine r_getA C K7 ob7 g6 (by decide) 4 (by decide) w_122 (fun _ z => z) e24 rfl dX5_comeFromLane_66 ?_
            refine r_iload_n C dX5_comeFromLane_69 rfl rfl ?_
            obtain ⟨g26, hw⟩ := hw
            refine r_callV (As := [.int v12_2]) (st := []) C (m_Jx4a65c_remove_915e3 hl hw) v_Jx4a65c_remove_915e3 w_383 K1 g26 (by decide) ob1 rfl ⟨leb rfl, leb rfl⟩ ⟨leb rfl, leb rfl⟩ rfl (leb rfl) dX5_comeFromLane_70 (fun _ _ z => z.elim) (kkA (K := fun hK sK => WS E p l e (rmOf 3 0 0 86) s m args below meth c 5 (vx_MQ below (qcP E (poV post)) (xcP E (pxN)) args s 0 0 (bsA E)) hK (0 + 0) (0 + 0) (70 + 3) [(0, .ref this), (1, .int x3), (2, .int v12_2), (3, .int v12_3), (4, .ref a12)] sK) (fun a25 h25 hv => ?_))
            replace hw := hv
            clear hv
            refine r_pop C dX5_comeFromLane_73 rfl ?_
            refine r_aload_n C dX5_comeFromLane_74 rfl rfl ?_
            refine r_aload C dX5_comeFromLane_75 rfl ?_
            refine r_aload C dX5_comeFromLane_77 rfl ?_
            obtain ⟨g27, hw⟩ := hw
            obtain ⟨x28, e28, hw⟩ := hw
            refine r_getI C K2 ob2 g27 (by decide) 4 (by decide) w_643 (fun _ z => z) e28 rfl dX5_comeFromLane_79 ?_
            obtain ⟨g30, hw⟩ := hw
            refine r_callV (As := [.ref a12, .int x28]) (st := []) C (m_X5_enterLine hl hw) v_X5_enterLine w_357 K7 g30 (by decide) ob7 rfl ⟨leb rfl, leb rfl⟩ ⟨leb rfl, leb rfl⟩ rfl (leb rfl) dX5_comeFromLane_82 (fun _ _ z => z.elim) (kkV (K := fun hK sK => WS E p l e (rmOf 3 0 0 86) s m args below meth c 5 (vx_MQ below (qcP E (poV post)) (xcP E (pxN)) args s 0 0 (bsA E)) hK (0 + 0) (0 + 0) (82 + 3) [(0, .ref this), (1, .int x3), (2, .int v12_2), (3, .int v12_3), (4, .ref a12)] sK) (fun h29 hv => ?_))
            replace hw := hv
            clear hv
            refine r_goto C 91 dX5_comeFromLane_85 (by decide) ?_
            exact (r_subk hw ⟨rfl, rfl, rfl, rfl, trivial⟩)
    )
  exact (r_subk hw ⟨rfl, rfl, rfl, rfl, trivial⟩)
theorem v_X5_comeFromLane : MV yX5_comeFromLane cX5_comeFromLane 5 none 0 := ⟨w_364, w_363, w_20, w_37, ⟨by decide +kernel, by decide +kernel, by decide +kernel⟩⟩

