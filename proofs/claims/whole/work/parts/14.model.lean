def wp_X6_init (h : Hp) (this : Nat) (post : Hp → Prop) : Prop :=
(∀ q1 : Nat, hT h q1 = 0 →
 (∀ h2, h2 = sN h q1 20 10 →
 (hT h2 this = 8 ∧
 (∀ h5, h5 = sR h2 this 1 (some q1) →
 (∀ q6 : Nat, hT h5 q6 = 0 →
 (∀ h7, h7 = sN h5 q6 20 10 →
 (0 < hL h7 q6 ∧
 (∀ h10, h10 = sI h7 q6 0 (255 : Int32) →
 (1 < hL h10 q6 ∧
 (∀ h13, h13 = sI h10 q6 1 (255 : Int32) →
 (2 < hL h13 q6 ∧
 (∀ h16, h16 = sI h13 q6 2 (255 : Int32) →
 (3 < hL h16 q6 ∧
 (∀ h19, h19 = sI h16 q6 3 (255 : Int32) →
 (4 < hL h19 q6 ∧
 (∀ h22, h22 = sI h19 q6 4 (255 : Int32) →
 (5 < hL h22 q6 ∧
 (∀ h25, h25 = sI h22 q6 5 (255 : Int32) →
 (6 < hL h25 q6 ∧
 (∀ h28, h28 = sI h25 q6 6 (255 : Int32) →
 (7 < hL h28 q6 ∧
 (∀ h31, h31 = sI h28 q6 7 (255 : Int32) →
 (8 < hL h31 q6 ∧
 (∀ h34, h34 = sI h31 q6 8 (255 : Int32) →
 (9 < hL h34 q6 ∧
 (∀ h37, h37 = sI h34 q6 9 (255 : Int32) →
 (∀ h50, h50 = sR h37 this 2 (some q6) →
 (∀ q51 : Nat, hT h50 q51 = 0 →
 (∀ h52, h52 = sN h50 q51 20 10 →
 (∀ h56, h56 = sR h52 this 3 (some q51) →
 (∀ q57 : Nat, hT h56 q57 = 0 →
 (∀ h58, h58 = sN h56 q57 21 10 →
 (∀ h62, h62 = sR h58 this 4 (some q57) →
 (∀ q63 : Nat, hT h62 q63 = 0 →
 (∀ h64, h64 = sN h62 q63 20 40 →
 (∀ h68, h68 = sR h64 this 6 (some q63) →
 (∀ q69 : Nat, hT h68 q69 = 0 →
 (∀ h70, h70 = sN h68 q69 20 40 →
 (∀ h74, h74 = sR h70 this 7 (some q69) →
 (∀ q75 : Nat, hT h74 q75 = 0 →
 (∀ h76, h76 = sN h74 q75 20 40 →
 (∀ h80, h80 = sR h76 this 8 (some q75) →
 (∀ q81 : Nat, hT h80 q81 = 0 →
 (∀ h82, h82 = sN h80 q81 21 40 →
 (∀ h86, h86 = sR h82 this 9 (some q81) →
 (∀ q87 : Nat, hT h86 q87 = 0 →
 (∀ h88, h88 = sN h86 q87 20 30 →
 (∀ h92, h92 = sR h88 this 11 (some q87) →
 (∀ q93 : Nat, hT h92 q93 = 0 →
 (∀ h94, h94 = sN h92 q93 20 30 →
 (∀ h98, h98 = sR h94 this 12 (some q93) →
 (∀ q99 : Nat, hT h98 q99 = 0 →
 (∀ h100, h100 = sN h98 q99 20 30 →
 (∀ h104, h104 = sR h100 this 13 (some q99) →
 (∀ q105 : Nat, hT h104 q105 = 0 →
 (∀ h106, h106 = sN h104 q105 20 300 →
 (∀ h110, h110 = sR h106 this 14 (some q105) →
 (∀ q111 : Nat, hT h110 q111 = 0 →
 (∀ h112, h112 = sN h110 q111 20 30 →
 (∀ h116, h116 = sR h112 this 15 (some q111) →
 (∀ q117 : Nat, hT h116 q117 = 0 →
 (∀ h118, h118 = sN h116 q117 21 30 →
 (∀ h122, h122 = sR h118 this 16 (some q117) →
 (∀ q123 : Nat, hT h122 q123 = 0 →
 (∀ h124, h124 = sN h122 q123 21 30 →
 (∀ h128, h128 = sR h124 this 17 (some q123) →
 (∀ q129 : Nat, hT h128 q129 = 0 →
 (∀ h130, h130 = sN h128 q129 21 30 →
 (∀ h134, h134 = sR h130 this 18 (some q129) →
 (∀ q135 : Nat, hT h134 q135 = 0 →
 (∀ h136, h136 = sN h134 q135 20 8 →
 (∀ h140, h140 = sR h136 this 19 (some q135) →
 (∀ q141 : Nat, hT h140 q141 = 0 →
 (∀ h142, h142 = sN h140 q141 20 30 →
 (∀ h146, h146 = sR h142 this 20 (some q141) →
 (∀ q147 : Nat, hT h146 q147 = 0 →
 (∀ h148, h148 = sN h146 q147 20 400 →
 (∀ h152, h152 = sR h148 this 24 (some q147) →
 (∀ q153 : Nat, hT h152 q153 = 0 →
 (∀ h154, h154 = sN h152 q153 21 1200 →
 (∀ h158, h158 = sR h154 this 25 (some q153) →
 (∀ q159 : Nat, hT h158 q159 = 0 →
 (∀ h160, h160 = sN h158 q159 20 10 →
 (∀ h164, h164 = sR h160 this 26 (some q159) →
 post h164))))))))))))))))))))))))))))))))))))))))))))))))))))))))))))))))))))))))))))))))))))
set_option maxHeartbeats 4000000 in
set_option maxRecDepth 100000 in
theorem m_X6_init {E : Ev} {l : Launch} (hl : l.stackTraces = false) {h : Hp} {this : Nat} {post : Hp → Prop} (hw : wp_X6_init h this post) : MT E l yX6_init cX6_init 1 none 1 40 21 2358 h [.ref this] (poV post) (pxN) := by
  refine MT.of (by decide) hl (Nat.le_of_ble_eq_true rfl) (fun p e s m args below meth c C => ?_)
  unfold wp_X6_init at hw
  have C : CX E p l s m args meth c cX6_init 1 "TaktLineModel" "<init>" none [] := C
  show WS E p l e (rmOf 1 21 2358 40) s m args below meth c 1 (vx_MQ below (qcP E (poV post)) (xcP E (pxN)) args s 21 2358 (bsA E)) h 0 0 0 [(0, .ref this)] []
  refine r_aload_n C dX6_init_0 rfl rfl ?_
  refine r_objInit C w_812 w_83 w_84 (leb rfl) (leb rfl) dX6_init_1 ?_
  refine r_aload_n C dX6_init_4 rfl rfl ?_
  refine r_bipush (v := (10 : Int32)) C dX6_init_5 (by decide) ?_
  refine r_newi (N := 10) C w_758 (by decide) (by decide) (by decide) (by decide) (by decide) dX6_init_7 (fun q1 z1 => ?_)
  replace hw := hw q1 z1
  obtain ⟨h2, eh2⟩ : ∃ z, z = sN h q1 20 10 := ⟨_, rfl⟩
  replace hw := hw h2 eh2
  rw [← eh2]
  have g3 : hT h2 q1 = 20 := by rw [eh2]; exact tag_new
  obtain ⟨g4, hw⟩ := hw
  obtain ⟨h5, eh5⟩ : ∃ z, z = sR h2 this 1 (some q1) := ⟨_, rfl⟩
  replace hw := hw h5 eh5
  refine p_FR C K8 ob8 g4 (by decide) 1 (by decide) w_814 (fun _ z => z) rfl rfl rfl (some q1) (fty := .array .int) (by decide +kernel) (Or.inr ⟨_, rfl⟩) (Nat.le_of_ble_eq_true rfl) rfl dX6_init_9 eh5 ?_
  refine r_aload_n C dX6_init_12 rfl rfl ?_
  refine r_bipush (v := (10 : Int32)) C dX6_init_13 (by decide) ?_
  refine r_newi (N := 10) C w_758 (by decide) (by decide) (by decide) (by decide) (by decide) dX6_init_15 (fun q6 z6 => ?_)
  replace hw := hw q6 z6
  obtain ⟨h7, eh7⟩ : ∃ z, z = sN h5 q6 20 10 := ⟨_, rfl⟩
  replace hw := hw h7 eh7
  rw [← eh7]
  have g8 : hT h7 q6 = 20 := by rw [eh7]; exact tag_new
  refine r_dup C dX6_init_17 rfl ?_
  refine r_iconst (v := (0 : Int32)) C dX6_init_18 (by decide) ?_
  refine r_sipush (v := (255 : Int32)) C dX6_init_19 (by decide) ?_
  obtain ⟨l9, hw⟩ := hw
  obtain ⟨h10, eh10⟩ : ∃ z, z = sI h7 q6 0 (255 : Int32) := ⟨_, rfl⟩
  replace hw := hw h10 eh10
  refine s_I C g8 (j := 0) rfl (by decide) l9 dX6_init_22 eh10 ?_
  refine r_dup C dX6_init_23 rfl ?_
  refine r_iconst (v := (1 : Int32)) C dX6_init_24 (by decide) ?_
  refine r_sipush (v := (255 : Int32)) C dX6_init_25 (by decide) ?_
  have g11 : hT h10 q6 = 20 := by rw [eh10]; exact g8
  obtain ⟨l12, hw⟩ := hw
  obtain ⟨h13, eh13⟩ : ∃ z, z = sI h10 q6 1 (255 : Int32) := ⟨_, rfl⟩
  replace hw := hw h13 eh13
  refine s_I C g11 (j := 1) rfl (by decide) l12 dX6_init_28 eh13 ?_
  refine r_dup C dX6_init_29 rfl ?_
  refine r_iconst (v := (2 : Int32)) C dX6_init_30 (by decide) ?_
  refine r_sipush (v := (255 : Int32)) C dX6_init_31 (by decide) ?_
  have g14 : hT h13 q6 = 20 := by rw [eh13]; exact g11
  obtain ⟨l15, hw⟩ := hw
  obtain ⟨h16, eh16⟩ : ∃ z, z = sI h13 q6 2 (255 : Int32) := ⟨_, rfl⟩
  replace hw := hw h16 eh16
  refine s_I C g14 (j := 2) rfl (by decide) l15 dX6_init_34 eh16 ?_
  refine r_dup C dX6_init_35 rfl ?_
  refine r_iconst (v := (3 : Int32)) C dX6_init_36 (by decide) ?_
  refine r_sipush (v := (255 : Int32)) C dX6_init_37 (by decide) ?_
  have g17 : hT h16 q6 = 20 := by rw [eh16]; exact g14
  obtain ⟨l18, hw⟩ := hw
  obtain ⟨h19, eh19⟩ : ∃ z, z = sI h16 q6 3 (255 : Int32) := ⟨_, rfl⟩
  replace hw := hw h19 eh19
  refine s_I C g17 (j := 3) rfl (by decide) l18 dX6_init_40 eh19 ?_
  refine r_dup C dX6_init_41 rfl ?_
  refine r_iconst (v := (4 : Int32)) C dX6_init_42 (by decide) ?_
  refine r_sipush (v := (255 : Int32)) C dX6_init_43 (by decide) ?_
  have g20 : hT h19 q6 = 20 := by rw [eh19]; exact g17
  obtain ⟨l21, hw⟩ := hw
  obtain ⟨h22, eh22⟩ : ∃ z, z = sI h19 q6 4 (255 : Int32) := ⟨_, rfl⟩
  replace hw := hw h22 eh22
  refine s_I C g20 (j := 4) rfl (by decide) l21 dX6_init_46 eh22 ?_
  refine r_dup C dX6_init_47 rfl ?_
  refine r_iconst (v := (5 : Int32)) C dX6_init_48 (by decide) ?_
  refine r_sipush (v := (255 : Int32)) C dX6_init_49 (by decide) ?_
  have g23 : hT h22 q6 = 20 := by rw [eh22]; exact g20
  obtain ⟨l24, hw⟩ := hw
  obtain ⟨h25, eh25⟩ : ∃ z, z = sI h22 q6 5 (255 : Int32) := ⟨_, rfl⟩
  replace hw := hw h25 eh25
  refine s_I C g23 (j := 5) rfl (by decide) l24 dX6_init_52 eh25 ?_
  refine r_dup C dX6_init_53 rfl ?_
  refine r_bipush (v := (6 : Int32)) C dX6_init_54 (by decide) ?_
  refine r_sipush (v := (255 : Int32)) C dX6_init_56 (by decide) ?_
  have g26 : hT h25 q6 = 20 := by rw [eh25]; exact g23
  obtain ⟨l27, hw⟩ := hw
  obtain ⟨h28, eh28⟩ : ∃ z, z = sI h25 q6 6 (255 : Int32) := ⟨_, rfl⟩
  replace hw := hw h28 eh28
  refine s_I C g26 (j := 6) rfl (by decide) l27 dX6_init_59 eh28 ?_
  refine r_dup C dX6_init_60 rfl ?_
  refine r_bipush (v := (7 : Int32)) C dX6_init_61 (by decide) ?_
  refine r_sipush (v := (255 : Int32)) C dX6_init_63 (by decide) ?_
  have g29 : hT h28 q6 = 20 := by rw [eh28]; exact g26
  obtain ⟨l30, hw⟩ := hw
  obtain ⟨h31, eh31⟩ : ∃ z, z = sI h28 q6 7 (255 : Int32) := ⟨_, rfl⟩
  replace hw := hw h31 eh31
  refine s_I C g29 (j := 7) rfl (by decide) l30 dX6_init_66 eh31 ?_
  refine r_dup C dX6_init_67 rfl ?_
  refine r_bipush (v := (8 : Int32)) C dX6_init_68 (by decide) ?_
  refine r_sipush (v := (255 : Int32)) C dX6_init_70 (by decide) ?_
  have g32 : hT h31 q6 = 20 := by rw [eh31]; exact g29
  obtain ⟨l33, hw⟩ := hw
  obtain ⟨h34, eh34⟩ : ∃ z, z = sI h31 q6 8 (255 : Int32) := ⟨_, rfl⟩
  replace hw := hw h34 eh34
  refine s_I C g32 (j := 8) rfl (by decide) l33 dX6_init_73 eh34 ?_
  refine r_dup C dX6_init_74 rfl ?_
  refine r_bipush (v := (9 : Int32)) C dX6_init_75 (by decide) ?_
  refine r_sipush (v := (255 : Int32)) C dX6_init_77 (by decide) ?_
  have g35 : hT h34 q6 = 20 := by rw [eh34]; exact g32
  obtain ⟨l36, hw⟩ := hw
  obtain ⟨h37, eh37⟩ : ∃ z, z = sI h34 q6 9 (255 : Int32) := ⟨_, rfl⟩
  replace hw := hw h37 eh37
  refine s_I C g35 (j := 9) rfl (by decide) l36 dX6_init_80 eh37 ?_
  have g38 : hT h5 this = 8 := by rw [eh5]; exact g4
  have g39 : hT h7 this = 8 := by rw [eh7]; exact tag_sN z6 g38 (by decide)
  have g40 : hT h10 this = 8 := by rw [eh10]; exact g39
  have g41 : hT h13 this = 8 := by rw [eh13]; exact g40
  have g42 : hT h16 this = 8 := by rw [eh16]; exact g41
  have g43 : hT h19 this = 8 := by rw [eh19]; exact g42
  have g44 : hT h22 this = 8 := by rw [eh22]; exact g43
  have g45 : hT h25 this = 8 := by rw [eh25]; exact g44
  have g46 : hT h28 this = 8 := by rw [eh28]; exact g45
  have g47 : hT h31 this = 8 := by rw [eh31]; exact g46
  have g48 : hT h34 this = 8 := by rw [eh34]; exact g47
  have g49 : hT h37 this = 8 := by rw [eh37]; exact g48
  obtain ⟨h50, eh50⟩ : ∃ z, z = sR h37 this 2 (some q6) := ⟨_, rfl⟩
  replace hw := hw h50 eh50
  refine p_FR C K8 ob8 g49 (by decide) 2 (by decide) w_815 (fun _ z => z) rfl rfl rfl (some q6) (fty := .array .int) (by decide +kernel) (Or.inr ⟨_, rfl⟩) (Nat.le_of_ble_eq_true rfl) rfl dX6_init_81 eh50 ?_
  refine r_aload_n C dX6_init_84 rfl rfl ?_
  refine r_bipush (v := (10 : Int32)) C dX6_init_85 (by decide) ?_
  refine r_newi (N := 10) C w_758 (by decide) (by decide) (by decide) (by decide) (by decide) dX6_init_87 (fun q51 z51 => ?_)
  replace hw := hw q51 z51
  obtain ⟨h52, eh52⟩ : ∃ z, z = sN h50 q51 20 10 := ⟨_, rfl⟩
  replace hw := hw h52 eh52
  rw [← eh52]
  have g53 : hT h52 q51 = 20 := by rw [eh52]; exact tag_new
  have g54 : hT h50 this = 8 := by rw [eh50]; exact g49
  have g55 : hT h52 this = 8 := by rw [eh52]; exact tag_sN z51 g54 (by decide)
  obtain ⟨h56, eh56⟩ : ∃ z, z = sR h52 this 3 (some q51) := ⟨_, rfl⟩
  replace hw := hw h56 eh56
  refine p_FR C K8 ob8 g55 (by decide) 3 (by decide) w_816 (fun _ z => z) rfl rfl rfl (some q51) (fty := .array .int) (by decide +kernel) (Or.inr ⟨_, rfl⟩) (Nat.le_of_ble_eq_true rfl) rfl dX6_init_89 eh56 ?_
  refine r_aload_n C dX6_init_92 rfl rfl ?_
  refine r_bipush (v := (10 : Int32)) C dX6_init_93 (by decide) ?_
  refine r_newb (N := 10) C w_904 (by decide) (by decide) (by decide) (by decide) (by decide) dX6_init_95 (fun q57 z57 => ?_)
  replace hw := hw q57 z57
  obtain ⟨h58, eh58⟩ : ∃ z, z = sN h56 q57 21 10 := ⟨_, rfl⟩
  replace hw := hw h58 eh58
  rw [← eh58]
  have g59 : hT h58 q57 = 21 := by rw [eh58]; exact tag_new
  have g60 : hT h56 this = 8 := by rw [eh56]; exact g55
  have g61 : hT h58 this = 8 := by rw [eh58]; exact tag_sN z57 g60 (by decide)
  obtain ⟨h62, eh62⟩ : ∃ z, z = sR h58 this 4 (some q57) := ⟨_, rfl⟩
  replace hw := hw h62 eh62
  refine p_FR C K8 ob8 g61 (by decide) 4 (by decide) w_817 (fun _ z => z) rfl rfl rfl (some q57) (fty := .array .boolean) (by decide +kernel) (Or.inr ⟨_, rfl⟩) (Nat.le_of_ble_eq_true rfl) rfl dX6_init_97 eh62 ?_
  refine r_aload_n C dX6_init_100 rfl rfl ?_
  refine r_bipush (v := (40 : Int32)) C dX6_init_101 (by decide) ?_
  refine r_newi (N := 40) C w_758 (by decide) (by decide) (by decide) (by decide) (by decide) dX6_init_103 (fun q63 z63 => ?_)
  replace hw := hw q63 z63
  obtain ⟨h64, eh64⟩ : ∃ z, z = sN h62 q63 20 40 := ⟨_, rfl⟩
  replace hw := hw h64 eh64
  rw [← eh64]
  have g65 : hT h64 q63 = 20 := by rw [eh64]; exact tag_new
  have g66 : hT h62 this = 8 := by rw [eh62]; exact g61
  have g67 : hT h64 this = 8 := by rw [eh64]; exact tag_sN z63 g66 (by decide)
  obtain ⟨h68, eh68⟩ : ∃ z, z = sR h64 this 6 (some q63) := ⟨_, rfl⟩
  replace hw := hw h68 eh68
  refine p_FR C K8 ob8 g67 (by decide) 6 (by decide) w_819 (fun _ z => z) rfl rfl rfl (some q63) (fty := .array .int) (by decide +kernel) (Or.inr ⟨_, rfl⟩) (Nat.le_of_ble_eq_true rfl) rfl dX6_init_105 eh68 ?_
  refine r_aload_n C dX6_init_108 rfl rfl ?_
  refine r_bipush (v := (40 : Int32)) C dX6_init_109 (by decide) ?_
  refine r_newi (N := 40) C w_758 (by decide) (by decide) (by decide) (by decide) (by decide) dX6_init_111 (fun q69 z69 => ?_)
  replace hw := hw q69 z69
  obtain ⟨h70, eh70⟩ : ∃ z, z = sN h68 q69 20 40 := ⟨_, rfl⟩
  replace hw := hw h70 eh70
  rw [← eh70]
  have g71 : hT h70 q69 = 20 := by rw [eh70]; exact tag_new
  have g72 : hT h68 this = 8 := by rw [eh68]; exact g67
  have g73 : hT h70 this = 8 := by rw [eh70]; exact tag_sN z69 g72 (by decide)
  obtain ⟨h74, eh74⟩ : ∃ z, z = sR h70 this 7 (some q69) := ⟨_, rfl⟩
  replace hw := hw h74 eh74
  refine p_FR C K8 ob8 g73 (by decide) 7 (by decide) w_820 (fun _ z => z) rfl rfl rfl (some q69) (fty := .array .int) (by decide +kernel) (Or.inr ⟨_, rfl⟩) (Nat.le_of_ble_eq_true rfl) rfl dX6_init_113 eh74 ?_
  refine r_aload_n C dX6_init_116 rfl rfl ?_
  refine r_bipush (v := (40 : Int32)) C dX6_init_117 (by decide) ?_
  refine r_newi (N := 40) C w_758 (by decide) (by decide) (by decide) (by decide) (by decide) dX6_init_119 (fun q75 z75 => ?_)
  replace hw := hw q75 z75
  obtain ⟨h76, eh76⟩ : ∃ z, z = sN h74 q75 20 40 := ⟨_, rfl⟩
  replace hw := hw h76 eh76
  rw [← eh76]
  have g77 : hT h76 q75 = 20 := by rw [eh76]; exact tag_new
  have g78 : hT h74 this = 8 := by rw [eh74]; exact g73
  have g79 : hT h76 this = 8 := by rw [eh76]; exact tag_sN z75 g78 (by decide)
  obtain ⟨h80, eh80⟩ : ∃ z, z = sR h76 this 8 (some q75) := ⟨_, rfl⟩
  replace hw := hw h80 eh80
  refine p_FR C K8 ob8 g79 (by decide) 8 (by decide) w_821 (fun _ z => z) rfl rfl rfl (some q75) (fty := .array .int) (by decide +kernel) (Or.inr ⟨_, rfl⟩) (Nat.le_of_ble_eq_true rfl) rfl dX6_init_121 eh80 ?_
  refine r_aload_n C dX6_init_124 rfl rfl ?_
  refine r_bipush (v := (40 : Int32)) C dX6_init_125 (by decide) ?_
  refine r_newb (N := 40) C w_904 (by decide) (by decide) (by decide) (by decide) (by decide) dX6_init_127 (fun q81 z81 => ?_)
  replace hw := hw q81 z81
  obtain ⟨h82, eh82⟩ : ∃ z, z = sN h80 q81 21 40 := ⟨_, rfl⟩
  replace hw := hw h82 eh82
  rw [← eh82]
  have g83 : hT h82 q81 = 21 := by rw [eh82]; exact tag_new
  have g84 : hT h80 this = 8 := by rw [eh80]; exact g79
  have g85 : hT h82 this = 8 := by rw [eh82]; exact tag_sN z81 g84 (by decide)
  obtain ⟨h86, eh86⟩ : ∃ z, z = sR h82 this 9 (some q81) := ⟨_, rfl⟩
  replace hw := hw h86 eh86
  refine p_FR C K8 ob8 g85 (by decide) 9 (by decide) w_822 (fun _ z => z) rfl rfl rfl (some q81) (fty := .array .boolean) (by decide +kernel) (Or.inr ⟨_, rfl⟩) (Nat.le_of_ble_eq_true rfl) rfl dX6_init_129 eh86 ?_
  refine r_aload_n C dX6_init_132 rfl rfl ?_
  refine r_bipush (v := (30 : Int32)) C dX6_init_133 (by decide) ?_
  refine r_newi (N := 30) C w_758 (by decide) (by decide) (by decide) (by decide) (by decide) dX6_init_135 (fun q87 z87 => ?_)
  replace hw := hw q87 z87
  obtain ⟨h88, eh88⟩ : ∃ z, z = sN h86 q87 20 30 := ⟨_, rfl⟩
  replace hw := hw h88 eh88
  rw [← eh88]
  have g89 : hT h88 q87 = 20 := by rw [eh88]; exact tag_new
  have g90 : hT h86 this = 8 := by rw [eh86]; exact g85
  have g91 : hT h88 this = 8 := by rw [eh88]; exact tag_sN z87 g90 (by decide)
  obtain ⟨h92, eh92⟩ : ∃ z, z = sR h88 this 11 (some q87) := ⟨_, rfl⟩
  replace hw := hw h92 eh92
  refine p_FR C K8 ob8 g91 (by decide) 11 (by decide) w_824 (fun _ z => z) rfl rfl rfl (some q87) (fty := .array .int) (by decide +kernel) (Or.inr ⟨_, rfl⟩) (Nat.le_of_ble_eq_true rfl) rfl dX6_init_137 eh92 ?_
  refine r_aload_n C dX6_init_140 rfl rfl ?_
  refine r_bipush (v := (30 : Int32)) C dX6_init_141 (by decide) ?_
  refine r_newi (N := 30) C w_758 (by decide) (by decide) (by decide) (by decide) (by decide) dX6_init_143 (fun q93 z93 => ?_)
  replace hw := hw q93 z93
  obtain ⟨h94, eh94⟩ : ∃ z, z = sN h92 q93 20 30 := ⟨_, rfl⟩
  replace hw := hw h94 eh94
  rw [← eh94]
  have g95 : hT h94 q93 = 20 := by rw [eh94]; exact tag_new
  have g96 : hT h92 this = 8 := by rw [eh92]; exact g91
  have g97 : hT h94 this = 8 := by rw [eh94]; exact tag_sN z93 g96 (by decide)
  obtain ⟨h98, eh98⟩ : ∃ z, z = sR h94 this 12 (some q93) := ⟨_, rfl⟩
  replace hw := hw h98 eh98
  refine p_FR C K8 ob8 g97 (by decide) 12 (by decide) w_825 (fun _ z => z) rfl rfl rfl (some q93) (fty := .array .int) (by decide +kernel) (Or.inr ⟨_, rfl⟩) (Nat.le_of_ble_eq_true rfl) rfl dX6_init_145 eh98 ?_
  refine r_aload_n C dX6_init_148 rfl rfl ?_
  refine r_bipush (v := (30 : Int32)) C dX6_init_149 (by decide) ?_
  refine r_newi (N := 30) C w_758 (by decide) (by decide) (by decide) (by decide) (by decide) dX6_init_151 (fun q99 z99 => ?_)
  replace hw := hw q99 z99
  obtain ⟨h100, eh100⟩ : ∃ z, z = sN h98 q99 20 30 := ⟨_, rfl⟩
  replace hw := hw h100 eh100
  rw [← eh100]
  have g101 : hT h100 q99 = 20 := by rw [eh100]; exact tag_new
  have g102 : hT h98 this = 8 := by rw [eh98]; exact g97
  have g103 : hT h100 this = 8 := by rw [eh100]; exact tag_sN z99 g102 (by decide)
  obtain ⟨h104, eh104⟩ : ∃ z, z = sR h100 this 13 (some q99) := ⟨_, rfl⟩
  replace hw := hw h104 eh104
  refine p_FR C K8 ob8 g103 (by decide) 13 (by decide) w_826 (fun _ z => z) rfl rfl rfl (some q99) (fty := .array .int) (by decide +kernel) (Or.inr ⟨_, rfl⟩) (Nat.le_of_ble_eq_true rfl) rfl dX6_init_153 eh104 ?_
  refine r_aload_n C dX6_init_156 rfl rfl ?_
  refine r_sipush (v := (300 : Int32)) C dX6_init_157 (by decide) ?_
  refine r_newi (N := 300) C w_758 (by decide) (by decide) (by decide) (by decide) (by decide) dX6_init_160 (fun q105 z105 => ?_)
  replace hw := hw q105 z105
  obtain ⟨h106, eh106⟩ : ∃ z, z = sN h104 q105 20 300 := ⟨_, rfl⟩
  replace hw := hw h106 eh106
  rw [← eh106]
  have g107 : hT h106 q105 = 20 := by rw [eh106]; exact tag_new
  have g108 : hT h104 this = 8 := by rw [eh104]; exact g103
  have g109 : hT h106 this = 8 := by rw [eh106]; exact tag_sN z105 g108 (by decide)
  obtain ⟨h110, eh110⟩ : ∃ z, z = sR h106 this 14 (some q105) := ⟨_, rfl⟩
  replace hw := hw h110 eh110
  refine p_FR C K8 ob8 g109 (by decide) 14 (by decide) w_827 (fun _ z => z) rfl rfl rfl (some q105) (fty := .array .int) (by decide +kernel) (Or.inr ⟨_, rfl⟩) (Nat.le_of_ble_eq_true rfl) rfl dX6_init_162 eh110 ?_
  refine r_aload_n C dX6_init_165 rfl rfl ?_
  refine r_bipush (v := (30 : Int32)) C dX6_init_166 (by decide) ?_
  refine r_newi (N := 30) C w_758 (by decide) (by decide) (by decide) (by decide) (by decide) dX6_init_168 (fun q111 z111 => ?_)
  replace hw := hw q111 z111
  obtain ⟨h112, eh112⟩ : ∃ z, z = sN h110 q111 20 30 := ⟨_, rfl⟩
  replace hw := hw h112 eh112
  rw [← eh112]
  have g113 : hT h112 q111 = 20 := by rw [eh112]; exact tag_new
  have g114 : hT h110 this = 8 := by rw [eh110]; exact g109
  have g115 : hT h112 this = 8 := by rw [eh112]; exact tag_sN z111 g114 (by decide)
  obtain ⟨h116, eh116⟩ : ∃ z, z = sR h112 this 15 (some q111) := ⟨_, rfl⟩
  replace hw := hw h116 eh116
  refine p_FR C K8 ob8 g115 (by decide) 15 (by decide) w_828 (fun _ z => z) rfl rfl rfl (some q111) (fty := .array .int) (by decide +kernel) (Or.inr ⟨_, rfl⟩) (Nat.le_of_ble_eq_true rfl) rfl dX6_init_170 eh116 ?_
  refine r_aload_n C dX6_init_173 rfl rfl ?_
  refine r_bipush (v := (30 : Int32)) C dX6_init_174 (by decide) ?_
  refine r_newb (N := 30) C w_904 (by decide) (by decide) (by decide) (by decide) (by decide) dX6_init_176 (fun q117 z117 => ?_)
  replace hw := hw q117 z117
  obtain ⟨h118, eh118⟩ : ∃ z, z = sN h116 q117 21 30 := ⟨_, rfl⟩
  replace hw := hw h118 eh118
  rw [← eh118]
  have g119 : hT h118 q117 = 21 := by rw [eh118]; exact tag_new
  have g120 : hT h116 this = 8 := by rw [eh116]; exact g115
  have g121 : hT h118 this = 8 := by rw [eh118]; exact tag_sN z117 g120 (by decide)
  obtain ⟨h122, eh122⟩ : ∃ z, z = sR h118 this 16 (some q117) := ⟨_, rfl⟩
  replace hw := hw h122 eh122
  refine p_FR C K8 ob8 g121 (by decide) 16 (by decide) w_829 (fun _ z => z) rfl rfl rfl (some q117) (fty := .array .boolean) (by decide +kernel) (Or.inr ⟨_, rfl⟩) (Nat.le_of_ble_eq_true rfl) rfl dX6_init_178 eh122 ?_
  refine r_aload_n C dX6_init_181 rfl rfl ?_
  refine r_bipush (v := (30 : Int32)) C dX6_init_182 (by decide) ?_
  refine r_newb (N := 30) C w_904 (by decide) (by decide) (by decide) (by decide) (by decide) dX6_init_184 (fun q123 z123 => ?_)
  replace hw := hw q123 z123
  obtain ⟨h124, eh124⟩ : ∃ z, z = sN h122 q123 21 30 := ⟨_, rfl⟩
  replace hw := hw h124 eh124
  rw [← eh124]
  have g125 : hT h124 q123 = 21 := by rw [eh124]; exact tag_new
  have g126 : hT h122 this = 8 := by rw [eh122]; exact g121
  have g127 : hT h124 this = 8 := by rw [eh124]; exact tag_sN z123 g126 (by decide)
  obtain ⟨h128, eh128⟩ : ∃ z, z = sR h124 this 17 (some q123) := ⟨_, rfl⟩
  replace hw := hw h128 eh128
  refine p_FR C K8 ob8 g127 (by decide) 17 (by decide) w_830 (fun _ z => z) rfl rfl rfl (some q123) (fty := .array .boolean) (by decide +kernel) (Or.inr ⟨_, rfl⟩) (Nat.le_of_ble_eq_true rfl) rfl dX6_init_186 eh128 ?_
  refine r_aload_n C dX6_init_189 rfl rfl ?_
  refine r_bipush (v := (30 : Int32)) C dX6_init_190 (by decide) ?_
  refine r_newb (N := 30) C w_904 (by decide) (by decide) (by decide) (by decide) (by decide) dX6_init_192 (fun q129 z129 => ?_)
  replace hw := hw q129 z129
  obtain ⟨h130, eh130⟩ : ∃ z, z = sN h128 q129 21 30 := ⟨_, rfl⟩
  replace hw := hw h130 eh130
  rw [← eh130]
  have g131 : hT h130 q129 = 21 := by rw [eh130]; exact tag_new
  have g132 : hT h128 this = 8 := by rw [eh128]; exact g127
  have g133 : hT h130 this = 8 := by rw [eh130]; exact tag_sN z129 g132 (by decide)
  obtain ⟨h134, eh134⟩ : ∃ z, z = sR h130 this 18 (some q129) := ⟨_, rfl⟩
  replace hw := hw h134 eh134
  refine p_FR C K8 ob8 g133 (by decide) 18 (by decide) w_831 (fun _ z => z) rfl rfl rfl (some q129) (fty := .array .boolean) (by decide +kernel) (Or.inr ⟨_, rfl⟩) (Nat.le_of_ble_eq_true rfl) rfl dX6_init_194 eh134 ?_
  refine r_aload_n C dX6_init_197 rfl rfl ?_
  refine r_bipush (v := (8 : Int32)) C dX6_init_198 (by decide) ?_
  refine r_newi (N := 8) C w_758 (by decide) (by decide) (by decide) (by decide) (by decide) dX6_init_200 (fun q135 z135 => ?_)
  replace hw := hw q135 z135
  obtain ⟨h136, eh136⟩ : ∃ z, z = sN h134 q135 20 8 := ⟨_, rfl⟩
  replace hw := hw h136 eh136
  rw [← eh136]
  have g137 : hT h136 q135 = 20 := by rw [eh136]; exact tag_new
  have g138 : hT h134 this = 8 := by rw [eh134]; exact g133
  have g139 : hT h136 this = 8 := by rw [eh136]; exact tag_sN z135 g138 (by decide)
  obtain ⟨h140, eh140⟩ : ∃ z, z = sR h136 this 19 (some q135) := ⟨_, rfl⟩
  replace hw := hw h140 eh140
  refine p_FR C K8 ob8 g139 (by decide) 19 (by decide) w_832 (fun _ z => z) rfl rfl rfl (some q135) (fty := .array .int) (by decide +kernel) (Or.inr ⟨_, rfl⟩) (Nat.le_of_ble_eq_true rfl) rfl dX6_init_202 eh140 ?_
  refine r_aload_n C dX6_init_205 rfl rfl ?_
  refine r_bipush (v := (30 : Int32)) C dX6_init_206 (by decide) ?_
  refine r_newi (N := 30) C w_758 (by decide) (by decide) (by decide) (by decide) (by decide) dX6_init_208 (fun q141 z141 => ?_)
  replace hw := hw q141 z141
  obtain ⟨h142, eh142⟩ : ∃ z, z = sN h140 q141 20 30 := ⟨_, rfl⟩
  replace hw := hw h142 eh142
  rw [← eh142]
  have g143 : hT h142 q141 = 20 := by rw [eh142]; exact tag_new
  have g144 : hT h140 this = 8 := by rw [eh140]; exact g139
  have g145 : hT h142 this = 8 := by rw [eh142]; exact tag_sN z141 g144 (by decide)
  obtain ⟨h146, eh146⟩ : ∃ z, z = sR h142 this 20 (some q141) := ⟨_, rfl⟩
  replace hw := hw h146 eh146
  refine p_FR C K8 ob8 g145 (by decide) 20 (by decide) w_833 (fun _ z => z) rfl rfl rfl (some q141) (fty := .array .int) (by decide +kernel) (Or.inr ⟨_, rfl⟩) (Nat.le_of_ble_eq_true rfl) rfl dX6_init_210 eh146 ?_
  refine r_aload_n C dX6_init_213 rfl rfl ?_
  refine r_sipush (v := (400 : Int32)) C dX6_init_214 (by decide) ?_
  refine r_newi (N := 400) C w_758 (by decide) (by decide) (by decide) (by decide) (by decide) dX6_init_217 (fun q147 z147 => ?_)
  replace hw := hw q147 z147
  obtain ⟨h148, eh148⟩ : ∃ z, z = sN h146 q147 20 400 := ⟨_, rfl⟩
  replace hw := hw h148 eh148
  rw [← eh148]
  have g149 : hT h148 q147 = 20 := by rw [eh148]; exact tag_new
  have g150 : hT h146 this = 8 := by rw [eh146]; exact g145
  have g151 : hT h148 this = 8 := by rw [eh148]; exact tag_sN z147 g150 (by decide)
  obtain ⟨h152, eh152⟩ : ∃ z, z = sR h148 this 24 (some q147) := ⟨_, rfl⟩
  replace hw := hw h152 eh152
  refine p_FR C K8 ob8 g151 (by decide) 24 (by decide) w_837 (fun _ z => z) rfl rfl rfl (some q147) (fty := .array .int) (by decide +kernel) (Or.inr ⟨_, rfl⟩) (Nat.le_of_ble_eq_true rfl) rfl dX6_init_219 eh152 ?_
  refine r_aload_n C dX6_init_222 rfl rfl ?_
  refine r_sipush (v := (1200 : Int32)) C dX6_init_223 (by decide) ?_
  refine r_newb (N := 1200) C w_904 (by decide) (by decide) (by decide) (by decide) (by decide) dX6_init_226 (fun q153 z153 => ?_)
  replace hw := hw q153 z153
  obtain ⟨h154, eh154⟩ : ∃ z, z = sN h152 q153 21 1200 := ⟨_, rfl⟩
  replace hw := hw h154 eh154
  rw [← eh154]
  have g155 : hT h154 q153 = 21 := by rw [eh154]; exact tag_new
  have g156 : hT h152 this = 8 := by rw [eh152]; exact g151
  have g157 : hT h154 this = 8 := by rw [eh154]; exact tag_sN z153 g156 (by decide)
  obtain ⟨h158, eh158⟩ : ∃ z, z = sR h154 this 25 (some q153) := ⟨_, rfl⟩
  replace hw := hw h158 eh158
  refine p_FR C K8 ob8 g157 (by decide) 25 (by decide) w_838 (fun _ z => z) rfl rfl rfl (some q153) (fty := .array .boolean) (by decide +kernel) (Or.inr ⟨_, rfl⟩) (Nat.le_of_ble_eq_true rfl) rfl dX6_init_228 eh158 ?_
  refine r_aload_n C dX6_init_231 rfl rfl ?_
  refine r_bipush (v := (10 : Int32)) C dX6_init_232 (by decide) ?_
  refine r_newi (N := 10) C w_758 (by decide) (by decide) (by decide) (by decide) (by decide) dX6_init_234 (fun q159 z159 => ?_)
  replace hw := hw q159 z159
  obtain ⟨h160, eh160⟩ : ∃ z, z = sN h158 q159 20 10 := ⟨_, rfl⟩
  replace hw := hw h160 eh160
  rw [← eh160]
  have g161 : hT h160 q159 = 20 := by rw [eh160]; exact tag_new
  have g162 : hT h158 this = 8 := by rw [eh158]; exact g157
  have g163 : hT h160 this = 8 := by rw [eh160]; exact tag_sN z159 g162 (by decide)
  obtain ⟨h164, eh164⟩ : ∃ z, z = sR h160 this 26 (some q159) := ⟨_, rfl⟩
  replace hw := hw h164 eh164
  refine p_FR C K8 ob8 g163 (by decide) 26 (by decide) w_839 (fun _ z => z) rfl rfl rfl (some q159) (fty := .array .int) (by decide +kernel) (Or.inr ⟨_, rfl⟩) (Nat.le_of_ble_eq_true rfl) rfl dX6_init_236 eh164 ?_
  exact r_vret C dX6_init_239 (by decide) (by decide) ⟨rfl, hw⟩
theorem v_X6_init : MI yX6_init cX6_init 1 0 := ⟨w_811, w_810, w_60, rfl, ⟨by decide +kernel, by decide +kernel, by decide +kernel⟩⟩

def wp_X6_thrown (h : Hp) (this : Nat) (post : Int32 → Prop) : Prop :=
(hT h this = 8 ∧
 (∃ x2 : Int32, hI h this 0 = x2 ∧
 post x2))
set_option maxHeartbeats 4000000 in
set_option maxRecDepth 100000 in
theorem m_X6_thrown {E : Ev} {l : Launch} (hl : l.stackTraces = false) {h : Hp} {this : Nat} {post : Int32 → Prop} (hw : wp_X6_thrown h this post) : MT E l yX6_thrown cX6_thrown 1 (some .int) 0 0 0 0 h [.ref this] (puI h post) (pxN) := by
  refine MT.of (by decide) hl (Nat.le_of_ble_eq_true rfl) (fun p e s m args below meth c C => ?_)
  unfold wp_X6_thrown at hw
  have C : CX E p l s m args meth c cX6_thrown 1 "TaktLineModel" "thrown" (some .int) [] := C
  show WS E p l e (rmOf 0 0 0 0) s m args below meth c 1 (vx_MQ below (qcP E (puI h post)) (xcP E (pxN)) args s 0 0 (bsA E)) h 0 0 0 [(0, .ref this)] []
  refine r_aload_n C dX6_thrown_0 rfl rfl ?_
  obtain ⟨g1, hw⟩ := hw
  obtain ⟨x2, e2, hw⟩ := hw
  refine r_getI C K8 ob8 g1 (by decide) 0 (by decide) w_813 (fun _ z => z) e2 rfl dX6_thrown_1 ?_
  exact r_iret C dX6_thrown_4 (by decide) (by decide) ⟨_, rfl, hw, rfl⟩
theorem v_X6_thrown : MV yX6_thrown cX6_thrown 1 (some .int) 0 := ⟨w_908, w_906, w_907, w_60, ⟨by decide +kernel, by decide +kernel, by decide +kernel⟩⟩

def wp_X6_goesWell (h : Hp) (this : Nat) (p0 : Int32) (post : Int32 → Hp → Prop) : Prop :=
(hT h this = 8 ∧
 (∀ h2, h2 = sI h this 0 p0 →
 (∀ J14 : Int32 → Prop, (∀ (t14_0 : Int32), (b01 t14_0 ∧
 post t14_0 h2) → J14 t14_0) →
 ((p0 = 0 →
 J14 (1 : Int32)) ∧ (¬ (p0 = 0) →
 J14 (0 : Int32))))))
set_option maxHeartbeats 4000000 in
set_option maxRecDepth 100000 in
theorem m_X6_goesWell {E : Ev} {l : Launch} (hl : l.stackTraces = false) {h : Hp} {this : Nat} {p0 : Int32} {post : Int32 → Hp → Prop} (hw : wp_X6_goesWell h this p0 post) : MT E l yX6_goesWell cX6_goesWell 2 (some .boolean) 0 0 0 0 h [.ref this, .int p0] (poI post) (pxN) := by
  refine MT.of (by decide) hl (Nat.le_of_ble_eq_true rfl) (fun p e s m args below meth c C => ?_)
  unfold wp_X6_goesWell at hw
  have C : CX E p l s m args meth c cX6_goesWell 2 "TaktLineModel" "goesWell" (some .boolean) [] := C
  show WS E p l e (rmOf 0 0 0 0) s m args below meth c 2 (vx_MQ below (qcP E (poI post)) (xcP E (pxN)) args s 0 0 (bsA E)) h 0 0 0 [(0, .ref this), (1, .int p0)] []
  refine r_aload_n C dX6_goesWell_0 rfl rfl ?_
  refine r_iload_n C dX6_goesWell_1 rfl rfl ?_
  obtain ⟨g1, hw⟩ := hw
  obtain ⟨h2, eh2⟩ : ∃ z, z = sI h this 0 p0 := ⟨_, rfl⟩
  replace hw := hw h2 eh2
  refine p_I C K8 ob8 g1 (by decide) 0 (by decide) w_813 (fun _ z => z) rfl (by decide +kernel) (Nat.le_of_ble_eq_true rfl) rfl dX6_goesWell_2 eh2 ?_
  refine r_iload_n C dX6_goesWell_5 rfl rfl ?_
  replace hw := hw (fun (t14_0 : Int32) => WS E p l e (rmOf 0 0 0 0) s m args below meth c 2 (vx_MQ below (qcP E (poI post)) (xcP E (pxN)) args s 0 0 (bsA E)) h2 0 0 14 [] [.int t14_0]) (by
    intro t14_0 hv
    replace hw := hv
    clear hv
    obtain ⟨y3, hw⟩ := hw
    exact r_zret C y3 dX6_goesWell_14 (by decide) (by decide) ⟨_, rfl, hw⟩
    )
  refine r_if_ne C 13 dX6_goesWell_6 (by decide) (fun z4 => ?_) (fun z4 => ?_)
  · replace hw := hw.2 z4
    refine r_iconst (v := (0 : Int32)) C dX6_goesWell_13 (by decide) ?_
    exact (r_subk hw trivial)
  · replace hw := hw.1 z4
    refine r_iconst (v := (1 : Int32)) C dX6_goesWell_9 (by decide) ?_
    refine r_goto C 14 dX6_goesWell_10 (by decide) ?_
    exact (r_subk hw trivial)
theorem v_X6_goesWell : MV yX6_goesWell cX6_goesWell 2 (some .boolean) 1 := ⟨w_922, w_921, w_36, w_60, ⟨by decide +kernel, by decide +kernel, by decide +kernel⟩⟩

def wp_X6_in (h : Hp) (p0 : Int32) (p1 : Int32) (p2 : Int32) (post : Int32 → Prop) : Prop :=
(∀ J15 : Int32 → Prop, (∀ (t15_0 : Int32), (b01 t15_0 ∧
 post t15_0) → J15 t15_0) →
 (∀ J14 : Prop, ((J15 (0 : Int32)) → J14) →
 ((p0 < p1 →
 J14) ∧ (¬ (p0 < p1) →
 ((p2 < p0 →
 J14) ∧ (¬ (p2 < p0) →
 J15 (1 : Int32)))))))
set_option maxHeartbeats 4000000 in
set_option maxRecDepth 100000 in
theorem m_X6_in {E : Ev} {l : Launch} (hl : l.stackTraces = false) {h : Hp} {p0 : Int32} {p1 : Int32} {p2 : Int32} {post : Int32 → Prop} (hw : wp_X6_in h p0 p1 p2 post) : MT E l yX6_in cX6_in 3 (some .boolean) 0 0 0 0 h [.int p0, .int p1, .int p2] (puI h post) (pxN) := by
  refine MT.of (by decide) hl (Nat.le_of_ble_eq_true rfl) (fun p e s m args below meth c C => ?_)
  unfold wp_X6_in at hw
  have C : CX E p l s m args meth c cX6_in 3 "TaktLineModel" "in" (some .boolean) [] := C
  show WS E p l e (rmOf 0 0 0 0) s m args below meth c 3 (vx_MQ below (qcP E (puI h post)) (xcP E (pxN)) args s 0 0 (bsA E)) h 0 0 0 [(0, .int p0), (1, .int p1), (2, .int p2)] []
  refine r_iload_n C dX6_in_0 rfl rfl ?_
  refine r_iload_n C dX6_in_1 rfl rfl ?_
  replace hw := hw (fun (t15_0 : Int32) => WS E p l e (rmOf 0 0 0 0) s m args below meth c 3 (vx_MQ below (qcP E (puI h post)) (xcP E (pxN)) args s 0 0 (bsA E)) h 0 0 15 [] [.int t15_0]) (by
    intro t15_0 hv
    replace hw := hv
    clear hv
    obtain ⟨y1, hw⟩ := hw
    exact r_zret C y1 dX6_in_15 (by decide) (by decide) ⟨_, rfl, hw, rfl⟩
    )
  replace hw := hw (WS E p l e (rmOf 0 0 0 0) s m args below meth c 3 (vx_MQ below (qcP E (puI h post)) (xcP E (pxN)) args s 0 0 (bsA E)) h 0 0 14 [] []) (by
    intro hv
    replace hw := hv
    clear hv
    refine r_iconst (v := (0 : Int32)) C dX6_in_14 (by decide) ?_
    exact (r_subk hw trivial)
    )
  refine r_icmp_lt C 14 dX6_in_2 (by decide) (fun z2 => ?_) (fun z2 => ?_)
  · replace hw := hw.1 z2
    exact (r_subk hw trivial)
  · replace hw := hw.2 z2
    refine r_iload_n C dX6_in_5 rfl rfl ?_
    refine r_iload_n C dX6_in_6 rfl rfl ?_
    refine r_icmp_gt C 14 dX6_in_7 (by decide) (fun z3 => ?_) (fun z3 => ?_)
    · replace hw := hw.1 z3
      exact (r_subk hw trivial)
    · replace hw := hw.2 z3
      refine r_iconst (v := (1 : Int32)) C dX6_in_10 (by decide) ?_
      refine r_goto C 15 dX6_in_11 (by decide) ?_
      exact (r_subk hw trivial)
theorem v_X6_in : MS yX6_in cX6_in 3 (some .boolean) 3 := ⟨w_915, w_914, w_60, ⟨by decide +kernel, by decide +kernel, by decide +kernel⟩⟩

def wp_X6_isKind (h : Hp) (p0 : Int32) (post : Int32 → Prop) : Prop :=
wp_X6_in h p0 (0 : Int32) (9 : Int32) (fun x1 =>
 (b01 x1 ∧
 post x1))
set_option maxHeartbeats 4000000 in
set_option maxRecDepth 100000 in
theorem m_X6_isKind {E : Ev} {l : Launch} (hl : l.stackTraces = false) {h : Hp} {p0 : Int32} {post : Int32 → Prop} (hw : wp_X6_isKind h p0 post) : MT E l yX6_isKind cX6_isKind 1 (some .boolean) 1 22 0 0 h [.int p0] (puI h post) (pxN) := by
  refine MT.of (by decide) hl (Nat.le_of_ble_eq_true rfl) (fun p e s m args below meth c C => ?_)
  unfold wp_X6_isKind at hw
  have C : CX E p l s m args meth c cX6_isKind 1 "TaktLineModel" "isKind" (some .boolean) [] := C
  show WS E p l e (rmOf 1 0 0 22) s m args below meth c 1 (vx_MQ below (qcP E (puI h post)) (xcP E (pxN)) args s 0 0 (bsA E)) h 0 0 0 [(0, .int p0)] []
  refine r_iload_n C dX6_isKind_0 rfl rfl ?_
  refine r_iconst (v := (0 : Int32)) C dX6_isKind_1 (by decide) ?_
  refine r_bipush (v := (9 : Int32)) C dX6_isKind_2 (by decide) ?_
  refine r_callS (As := [.int p0, .int (0 : Int32), .int (9 : Int32)]) (st := []) C (m_X6_in hl hw) v_X6_in w_913 rfl ⟨leb rfl, leb rfl⟩ ⟨leb rfl, leb rfl⟩ rfl (leb rfl) dX6_isKind_4 (fun _ _ z => z.elim) (kpI (K := fun hK sK => WS E p l e (rmOf 1 0 0 22) s m args below meth c 1 (vx_MQ below (qcP E (puI h post)) (xcP E (pxN)) args s 0 0 (bsA E)) hK (0 + 0) (0 + 0) (4 + 3) [(0, .int p0)] sK) (fun x1 hv => ?_))
  replace hw := hv
  clear hv
  obtain ⟨y2, hw⟩ := hw
  exact r_zret C y2 dX6_isKind_7 (by decide) (by decide) ⟨_, rfl, hw, rfl⟩
theorem v_X6_isKind : MS yX6_isKind cX6_isKind 1 (some .boolean) 1 := ⟨w_918, w_917, w_60, ⟨by decide +kernel, by decide +kernel, by decide +kernel⟩⟩

def wp_X6_isLot (h : Hp) (this : Nat) (p0 : Int32) (post : Int32 → Prop) : Prop :=
(hT h this = 8 ∧
 (∃ x2 : Int32, hI h this 5 = x2 ∧
 wp_X6_in h p0 (0 : Int32) (x2 - (1 : Int32)) (fun x3 =>
 (b01 x3 ∧
 post x3))))
set_option maxHeartbeats 4000000 in
set_option maxRecDepth 100000 in
theorem m_X6_isLot {E : Ev} {l : Launch} (hl : l.stackTraces = false) {h : Hp} {this : Nat} {p0 : Int32} {post : Int32 → Prop} (hw : wp_X6_isLot h this p0 post) : MT E l yX6_isLot cX6_isLot 2 (some .boolean) 1 22 0 0 h [.ref this, .int p0] (puI h post) (pxN) := by
  refine MT.of (by decide) hl (Nat.le_of_ble_eq_true rfl) (fun p e s m args below meth c C => ?_)
  unfold wp_X6_isLot at hw
  have C : CX E p l s m args meth c cX6_isLot 2 "TaktLineModel" "isLot" (some .boolean) [] := C
  show WS E p l e (rmOf 1 0 0 22) s m args below meth c 2 (vx_MQ below (qcP E (puI h post)) (xcP E (pxN)) args s 0 0 (bsA E)) h 0 0 0 [(0, .ref this), (1, .int p0)] []
  refine r_iload_n C dX6_isLot_0 rfl rfl ?_
  refine r_iconst (v := (0 : Int32)) C dX6_isLot_1 (by decide) ?_
  refine r_aload_n C dX6_isLot_2 rfl rfl ?_
  obtain ⟨g1, hw⟩ := hw
  obtain ⟨x2, e2, hw⟩ := hw
  refine r_getI C K8 ob8 g1 (by decide) 5 (by decide) w_818 (fun _ z => z) e2 rfl dX6_isLot_3 ?_
  refine r_iconst (v := (1 : Int32)) C dX6_isLot_6 (by decide) ?_
  refine r_isub C dX6_isLot_7 ?_
  refine r_callS (As := [.int p0, .int (0 : Int32), .int (x2 - (1 : Int32))]) (st := []) C (m_X6_in hl hw) v_X6_in w_913 rfl ⟨leb rfl, leb rfl⟩ ⟨leb rfl, leb rfl⟩ rfl (leb rfl) dX6_isLot_8 (fun _ _ z => z.elim) (kpI (K := fun hK sK => WS E p l e (rmOf 1 0 0 22) s m args below meth c 2 (vx_MQ below (qcP E (puI h post)) (xcP E (pxN)) args s 0 0 (bsA E)) hK (0 + 0) (0 + 0) (8 + 3) [(0, .ref this), (1, .int p0)] sK) (fun x3 hv => ?_))
  replace hw := hv
  clear hv
  obtain ⟨y4, hw⟩ := hw
  exact r_zret C y4 dX6_isLot_11 (by decide) (by decide) ⟨_, rfl, hw, rfl⟩
theorem v_X6_isLot : MV yX6_isLot cX6_isLot 2 (some .boolean) 1 := ⟨w_934, w_933, w_37, w_60, ⟨by decide +kernel, by decide +kernel, by decide +kernel⟩⟩

def wp_X6_isCar (h : Hp) (this : Nat) (p0 : Int32) (post : Int32 → Prop) : Prop :=
(hT h this = 8 ∧
 (∃ x2 : Int32, hI h this 10 = x2 ∧
 wp_X6_in h p0 (0 : Int32) (x2 - (1 : Int32)) (fun x3 =>
 (b01 x3 ∧
 post x3))))
set_option maxHeartbeats 4000000 in
set_option maxRecDepth 100000 in
theorem m_X6_isCar {E : Ev} {l : Launch} (hl : l.stackTraces = false) {h : Hp} {this : Nat} {p0 : Int32} {post : Int32 → Prop} (hw : wp_X6_isCar h this p0 post) : MT E l yX6_isCar cX6_isCar 2 (some .boolean) 1 22 0 0 h [.ref this, .int p0] (puI h post) (pxN) := by
  refine MT.of (by decide) hl (Nat.le_of_ble_eq_true rfl) (fun p e s m args below meth c C => ?_)
  unfold wp_X6_isCar at hw
  have C : CX E p l s m args meth c cX6_isCar 2 "TaktLineModel" "isCar" (some .boolean) [] := C
  show WS E p l e (rmOf 1 0 0 22) s m args below meth c 2 (vx_MQ below (qcP E (puI h post)) (xcP E (pxN)) args s 0 0 (bsA E)) h 0 0 0 [(0, .ref this), (1, .int p0)] []
  refine r_iload_n C dX6_isCar_0 rfl rfl ?_
  refine r_iconst (v := (0 : Int32)) C dX6_isCar_1 (by decide) ?_
  refine r_aload_n C dX6_isCar_2 rfl rfl ?_
  obtain ⟨g1, hw⟩ := hw
  obtain ⟨x2, e2, hw⟩ := hw
  refine r_getI C K8 ob8 g1 (by decide) 10 (by decide) w_823 (fun _ z => z) e2 rfl dX6_isCar_3 ?_
  refine r_iconst (v := (1 : Int32)) C dX6_isCar_6 (by decide) ?_
  refine r_isub C dX6_isCar_7 ?_
  refine r_callS (As := [.int p0, .int (0 : Int32), .int (x2 - (1 : Int32))]) (st := []) C (m_X6_in hl hw) v_X6_in w_913 rfl ⟨leb rfl, leb rfl⟩ ⟨leb rfl, leb rfl⟩ rfl (leb rfl) dX6_isCar_8 (fun _ _ z => z.elim) (kpI (K := fun hK sK => WS E p l e (rmOf 1 0 0 22) s m args below meth c 2 (vx_MQ below (qcP E (puI h post)) (xcP E (pxN)) args s 0 0 (bsA E)) hK (0 + 0) (0 + 0) (8 + 3) [(0, .ref this), (1, .int p0)] sK) (fun x3 hv => ?_))
  replace hw := hv
  clear hv
  obtain ⟨y4, hw⟩ := hw
  exact r_zret C y4 dX6_isCar_11 (by decide) (by decide) ⟨_, rfl, hw, rfl⟩
theorem v_X6_isCar : MV yX6_isCar cX6_isCar 2 (some .boolean) 1 := ⟨w_946, w_945, w_38, w_60, ⟨by decide +kernel, by decide +kernel, by decide +kernel⟩⟩

def wp_X6_isImage (h : Hp) (this : Nat) (p0 : Int32) (post : Int32 → Prop) : Prop :=
(hT h this = 8 ∧
 (∃ x2 : Int32, hI h this 23 = x2 ∧
 wp_X6_in h p0 (0 : Int32) (x2 - (1 : Int32)) (fun x3 =>
 (b01 x3 ∧
 post x3))))
set_option maxHeartbeats 4000000 in
set_option maxRecDepth 100000 in
theorem m_X6_isImage {E : Ev} {l : Launch} (hl : l.stackTraces = false) {h : Hp} {this : Nat} {p0 : Int32} {post : Int32 → Prop} (hw : wp_X6_isImage h this p0 post) : MT E l yX6_isImage cX6_isImage 2 (some .boolean) 1 22 0 0 h [.ref this, .int p0] (puI h post) (pxN) := by
  refine MT.of (by decide) hl (Nat.le_of_ble_eq_true rfl) (fun p e s m args below meth c C => ?_)
  unfold wp_X6_isImage at hw
  have C : CX E p l s m args meth c cX6_isImage 2 "TaktLineModel" "isImage" (some .boolean) [] := C
  show WS E p l e (rmOf 1 0 0 22) s m args below meth c 2 (vx_MQ below (qcP E (puI h post)) (xcP E (pxN)) args s 0 0 (bsA E)) h 0 0 0 [(0, .ref this), (1, .int p0)] []
  refine r_iload_n C dX6_isImage_0 rfl rfl ?_
  refine r_iconst (v := (0 : Int32)) C dX6_isImage_1 (by decide) ?_
  refine r_aload_n C dX6_isImage_2 rfl rfl ?_
  obtain ⟨g1, hw⟩ := hw
  obtain ⟨x2, e2, hw⟩ := hw
  refine r_getI C K8 ob8 g1 (by decide) 23 (by decide) w_836 (fun _ z => z) e2 rfl dX6_isImage_3 ?_
  refine r_iconst (v := (1 : Int32)) C dX6_isImage_6 (by decide) ?_
  refine r_isub C dX6_isImage_7 ?_
  refine r_callS (As := [.int p0, .int (0 : Int32), .int (x2 - (1 : Int32))]) (st := []) C (m_X6_in hl hw) v_X6_in w_913 rfl ⟨leb rfl, leb rfl⟩ ⟨leb rfl, leb rfl⟩ rfl (leb rfl) dX6_isImage_8 (fun _ _ z => z.elim) (kpI (K := fun hK sK => WS E p l e (rmOf 1 0 0 22) s m args below meth c 2 (vx_MQ below (qcP E (puI h post)) (xcP E (pxN)) args s 0 0 (bsA E)) hK (0 + 0) (0 + 0) (8 + 3) [(0, .ref this), (1, .int p0)] sK) (fun x3 hv => ?_))
  replace hw := hv
  clear hv
  obtain ⟨y4, hw⟩ := hw
  exact r_zret C y4 dX6_isImage_11 (by decide) (by decide) ⟨_, rfl, hw, rfl⟩
theorem v_X6_isImage : MV yX6_isImage cX6_isImage 2 (some .boolean) 1 := ⟨w_995, w_994, w_44, w_60, ⟨by decide +kernel, by decide +kernel, by decide +kernel⟩⟩

def wp_X6_kind (h : Hp) (this : Nat) (p0 : Int32) (p1 : Int32) (p2 : Int32) (p3 : Int32) (p4 : Int32) (post : Hp → Prop) : Prop :=
wp_X6_in h p1 (0 : Int32) (4 : Int32) (fun x1 =>
 (∀ J37 : Int32 → Prop, (∀ (t37_0 : Int32), (wp_X6_isKind h p0 (fun x2 =>
 (∀ J72 : Int32 → Prop, (∀ (t72_0 : Int32), (hT h this = 8 ∧
 wp_X6_goesWell h this t72_0 (fun x3 h3 =>
 (∀ J108 : Hp → Prop, (∀ (h108_ : Hp), (post h108_) → J108 h108_) →
 ((x3 = 0 →
 J108 h3) ∧ (¬ (x3 = 0) →
 (hT h3 this = 8 ∧
 (∃ a7 : Nat, hR h3 this 1 = some a7 ∧
 (hT h3 a7 = 20 ∧
 (∃ j9 : Nat, p0 = nI j9 ∧ j9 < 2147483648 ∧ j9 < hL h3 a7 ∧
 (∀ h10, h10 = sI h3 a7 j9 p1 →
 (∃ a12 : Nat, hR h10 this 2 = some a12 ∧
 (hT h10 a12 = 20 ∧
 (∃ j14 : Nat, p0 = nI j14 ∧ j14 < 2147483648 ∧ j14 < hL h10 a12 ∧
 (∀ h15, h15 = sI h10 a12 j14 p2 →
 (∃ a17 : Nat, hR h15 this 3 = some a17 ∧
 (hT h15 a17 = 20 ∧
 (∃ j19 : Nat, p0 = nI j19 ∧ j19 < 2147483648 ∧ j19 < hL h15 a17 ∧
 (∀ h20, h20 = sI h15 a17 j19 p3 →
 (∃ a22 : Nat, hR h20 this 4 = some a22 ∧
 (hT h20 a22 = 21 ∧
 (∃ j24 : Nat, p0 = nI j24 ∧ j24 < 2147483648 ∧ j24 < hL h20 a22 ∧
 (b01 p4 ∧
 (∀ h26, h26 = sI h20 a22 j24 p4 →
 J108 h26))))))))))))))))))))))) → J72 t72_0) →
 ((x2 = 0 →
 J72 (1 : Int32)) ∧ (¬ (x2 = 0) →
 ((t37_0 = 0 →
 J72 (2 : Int32)) ∧ (¬ (t37_0 = 0) →
 (hT h this = 8 ∧
 (∃ x30 : Int32, hI h this 10 = x30 ∧
 ((x30 ≤ 0 →
 J72 (0 : Int32)) ∧ (¬ (x30 ≤ 0) →
 J72 (3 : Int32)))))))))))) → J37 t37_0) →
 (∀ J36 : Prop, ((J37 (0 : Int32)) → J36) →
 ((x1 = 0 →
 J36) ∧ (¬ (x1 = 0) →
 wp_X6_in h p2 (0 : Int32) (255 : Int32) (fun x33 =>
 ((x33 = 0 →
 J36) ∧ (¬ (x33 = 0) →
 wp_X6_in h p3 (0 : Int32) (255 : Int32) (fun x35 =>
 ((x35 = 0 →
 J36) ∧ (¬ (x35 = 0) →
 J37 (1 : Int32))))))))))))
set_option maxHeartbeats 4000000 in
set_option maxRecDepth 100000 in
theorem m_X6_kind {E : Ev} {l : Launch} (hl : l.stackTraces = false) {h : Hp} {this : Nat} {p0 : Int32} {p1 : Int32} {p2 : Int32} {p3 : Int32} {p4 : Int32} {post : Hp → Prop} (hw : wp_X6_kind h this p0 p1 p2 p3 p4 post) : MT E l yX6_kind cX6_kind 7 none 2 42 0 0 h [.ref this, .int p0, .int p1, .int p2, .int p3, .int p4] (poV post) (pxN) := by
  refine MT.of (by decide) hl (Nat.le_of_ble_eq_true rfl) (fun p e s m args below meth c C => ?_)
  unfold wp_X6_kind at hw
  have C : CX E p l s m args meth c cX6_kind 7 "TaktLineModel" "kind" none [] := C
  show WS E p l e (rmOf 2 0 0 42) s m args below meth c 7 (vx_MQ below (qcP E (poV post)) (xcP E (pxN)) args s 0 0 (bsA E)) h 0 0 0 [(0, .ref this), (1, .int p0), (2, .int p1), (3, .int p2), (4, .int p3), (5, .int p4)] []
  refine r_iload_n C dX6_kind_0 rfl rfl ?_
  refine r_iconst (v := (0 : Int32)) C dX6_kind_1 (by decide) ?_
  refine r_iconst (v := (4 : Int32)) C dX6_kind_2 (by decide) ?_
  refine r_callS (As := [.int p1, .int (0 : Int32), .int (4 : Int32)]) (st := []) C (m_X6_in hl hw) v_X6_in w_913 rfl ⟨leb rfl, leb rfl⟩ ⟨leb rfl, leb rfl⟩ rfl (leb rfl) dX6_kind_3 (fun _ _ z => z.elim) (kpI (K := fun hK sK => WS E p l e (rmOf 2 0 0 42) s m args below meth c 7 (vx_MQ below (qcP E (poV post)) (xcP E (pxN)) args s 0 0 (bsA E)) hK (0 + 0) (0 + 0) (3 + 3) [(0, .ref this), (1, .int p0), (2, .int p1), (3, .int p2), (4, .int p3), (5, .int p4)] sK) (fun x1 hv => ?_))
  replace hw := hv
  clear hv
  replace hw := hw (fun (t37_0 : Int32) => WS E p l e (rmOf 2 0 0 42) s m args below meth c 7 (vx_MQ below (qcP E (poV post)) (xcP E (pxN)) args s 0 0 (bsA E)) h 0 0 37 [(0, .ref this), (1, .int p0), (2, .int p1), (3, .int p2), (4, .int p3), (5, .int p4)] [.int t37_0]) (by
    intro t37_0 hv
    replace hw := hv
    clear hv
    refine r_istore C dX6_kind_37 (by decide) [(0, .ref this), (1, .int p0), (2, .int p1), (3, .int p2), (4, .int p3), (5, .int p4), (6, .int t37_0)] ⟨rfl, rfl, rfl, rfl, rfl, rfl, rfl, trivial⟩ ?_
    refine r_aload_n C dX6_kind_39 rfl rfl ?_
    refine r_iload_n C dX6_kind_40 rfl rfl ?_
    refine r_callS (As := [.int p0]) (st := [.ref this]) C (m_X6_isKind hl hw) v_X6_isKind w_916 rfl ⟨leb rfl, leb rfl⟩ ⟨leb rfl, leb rfl⟩ rfl (leb rfl) dX6_kind_41 (fun _ _ z => z.elim) (kpI (K := fun hK sK => WS E p l e (rmOf 2 0 0 42) s m args below meth c 7 (vx_MQ below (qcP E (poV post)) (xcP E (pxN)) args s 0 0 (bsA E)) hK (0 + 0) (0 + 0) (41 + 3) [(0, .ref this), (1, .int p0), (2, .int p1), (3, .int p2), (4, .int p3), (5, .int p4), (6, .int t37_0)] sK) (fun x2 hv => ?_))
    replace hw := hv
    clear hv
    replace hw := hw (fun (t72_0 : Int32) => WS E p l e (rmOf 2 0 0 42) s m args below meth c 7 (vx_MQ below (qcP E (poV post)) (xcP E (pxN)) args s 0 0 (bsA E)) h 0 0 72 [(0, .ref this), (1, .int p0), (2, .int p1), (3, .int p2), (4, .int p3), (5, .int p4)] [.int t72_0, .ref this]) (by
      intro t72_0 hv
      replace hw := hv
      clear hv
      obtain ⟨g4, hw⟩ := hw
      refine r_callV (As := [.int t72_0]) (st := []) C (m_X6_goesWell hl hw) v_X6_goesWell w_919 K8 g4 (by decide) ob8 rfl ⟨leb rfl, leb rfl⟩ ⟨leb rfl, leb rfl⟩ rfl (leb rfl) dX6_kind_72 (fun _ _ z => z.elim) (kkI (K := fun hK sK => WS E p l e (rmOf 2 0 0 42) s m args below meth c 7 (vx_MQ below (qcP E (poV post)) (xcP E (pxN)) args s 0 0 (bsA E)) hK (0 + 0) (0 + 0) (72 + 3) [(0, .ref this), (1, .int p0), (2, .int p1), (3, .int p2), (4, .int p3), (5, .int p4)] sK) (fun x3 h3 hv => ?_))
      replace hw := hv
      clear hv
      replace hw := hw (fun (h108_ : Hp) => WS E p l e (rmOf 2 0 0 42) s m args below meth c 7 (vx_MQ below (qcP E (poV post)) (xcP E (pxN)) args s 0 0 (bsA E)) h108_ 0 0 108 [] []) (by
        intro h108_ hv
        replace hw := hv
        clear hv
        exact r_vret C dX6_kind_108 (by decide) (by decide) ⟨rfl, hw⟩
        )
      refine r_if_eq C 108 dX6_kind_75 (by decide) (fun z5 => ?_) (fun z5 => ?_)
      · replace hw := hw.1 z5
        exact (r_subk hw trivial)
      · replace hw := hw.2 z5
        refine r_aload_n C dX6_kind_78 rfl rfl ?_
        obtain ⟨g6, hw⟩ := hw
        obtain ⟨a7, e7, hw⟩ := hw
        refine r_getA C K8 ob8 g6 (by decide) 1 (by decide) w_814 (fun _ z => z) e7 rfl dX6_kind_79 ?_
        refine r_iload_n C dX6_kind_82 rfl rfl ?_
        refine r_iload_n C dX6_kind_83 rfl rfl ?_
        obtain ⟨g8, hw⟩ := hw
        obtain ⟨j9, f9, l9, k9, hw⟩ := hw
        obtain ⟨h10, eh10⟩ : ∃ z, z = sI h3 a7 j9 p1 := ⟨_, rfl⟩
        replace hw := hw h10 eh10
        refine s_I C g8 f9 l9 k9 dX6_kind_84 eh10 ?_
        refine r_aload_n C dX6_kind_85 rfl rfl ?_
        have g11 : hT h10 this = 8 := by rw [eh10]; exact g6
        obtain ⟨a12, e12, hw⟩ := hw
        refine r_getA C K8 ob8 g11 (by decide) 2 (by decide) w_815 (fun _ z => z) e12 rfl dX6_kind_86 ?_
        refine r_iload_n C dX6_kind_89 rfl rfl ?_
        refine r_iload_n C dX6_kind_90 rfl rfl ?_
        obtain ⟨g13, hw⟩ := hw
        obtain ⟨j14, f14, l14, k14, hw⟩ := hw
        obtain ⟨h15, eh15⟩ : ∃ z, z = sI h10 a12 j14 p2 := ⟨_, rfl⟩
        replace hw := hw h15 eh15
        refine s_I C g13 f14 l14 k14 dX6_kind_91 eh15 ?_
        refine r_aload_n C dX6_kind_92 rfl rfl ?_
        have g16 : hT h15 this = 8 := by rw [eh15]; exact g11
        obtain ⟨a17, e17, hw⟩ := hw
        refine r_getA C K8 ob8 g16 (by decide) 3 (by decide) w_816 (fun _ z => z) e17 rfl dX6_kind_93 ?_
        refine r_iload_n C dX6_kind_96 rfl rfl ?_
        refine r_iload C dX6_kind_97 rfl ?_
        obtain ⟨g18, hw⟩ := hw
        obtain ⟨j19, f19, l19, k19, hw⟩ := hw
        obtain ⟨h20, eh20⟩ : ∃ z, z = sI h15 a17 j19 p3 := ⟨_, rfl⟩
        replace hw := hw h20 eh20
        refine s_I C g18 f19 l19 k19 dX6_kind_99 eh20 ?_
        refine r_aload_n C dX6_kind_100 rfl rfl ?_
        have g21 : hT h20 this = 8 := by rw [eh20]; exact g16
        obtain ⟨a22, e22, hw⟩ := hw
        refine r_getA C K8 ob8 g21 (by decide) 4 (by decide) w_817 (fun _ z => z) e22 rfl dX6_kind_101 ?_
        refine r_iload_n C dX6_kind_104 rfl rfl ?_
        refine r_iload C dX6_kind_105 rfl ?_
        obtain ⟨g23, hw⟩ := hw
        obtain ⟨j24, f24, l24, k24, hw⟩ := hw
        obtain ⟨y25, hw⟩ := hw
        obtain ⟨h26, eh26⟩ : ∃ z, z = sI h20 a22 j24 p4 := ⟨_, rfl⟩
        replace hw := hw h26 eh26
        refine s_B C g23 f24 l24 k24 y25 dX6_kind_107 eh26 ?_
        exact (r_subk hw trivial)
      )
    refine r_if_ne C 51 dX6_kind_44 (by decide) (fun z27 => ?_) (fun z27 => ?_)
    · replace hw := hw.2 z27
      refine r_iload C dX6_kind_51 rfl ?_
      refine r_if_ne C 60 dX6_kind_53 (by decide) (fun z28 => ?_) (fun z28 => ?_)
      · replace hw := hw.2 z28
        refine r_aload_n C dX6_kind_60 rfl rfl ?_
        obtain ⟨g29, hw⟩ := hw
        obtain ⟨x30, e30, hw⟩ := hw
        refine r_getI C K8 ob8 g29 (by decide) 10 (by decide) w_823 (fun _ z => z) e30 rfl dX6_kind_61 ?_
        refine r_if_le C 71 dX6_kind_64 (by decide) (fun z31 => ?_) (fun z31 => ?_)
        · replace hw := hw.1 z31
          refine r_iconst (v := (0 : Int32)) C dX6_kind_71 (by decide) ?_
          exact (r_subk hw ⟨rfl, rfl, rfl, rfl, rfl, rfl, trivial⟩)
        · replace hw := hw.2 z31
          refine r_iconst (v := (3 : Int32)) C dX6_kind_67 (by decide) ?_
          refine r_goto C 72 dX6_kind_68 (by decide) ?_
          exact (r_subk hw ⟨rfl, rfl, rfl, rfl, rfl, rfl, trivial⟩)
      · replace hw := hw.1 z28
        refine r_iconst (v := (2 : Int32)) C dX6_kind_56 (by decide) ?_
        refine r_goto C 72 dX6_kind_57 (by decide) ?_
        exact (r_subk hw ⟨rfl, rfl, rfl, rfl, rfl, rfl, trivial⟩)
    · replace hw := hw.1 z27
      refine r_iconst (v := (1 : Int32)) C dX6_kind_47 (by decide) ?_
      refine r_goto C 72 dX6_kind_48 (by decide) ?_
      exact (r_subk hw ⟨rfl, rfl, rfl, rfl, rfl, rfl, trivial⟩)
    )
  replace hw := hw (WS E p l e (rmOf 2 0 0 42) s m args below meth c 7 (vx_MQ below (qcP E (poV post)) (xcP E (pxN)) args s 0 0 (bsA E)) h 0 0 36 [(0, .ref this), (1, .int p0), (2, .int p1), (3, .int p2), (4, .int p3), (5, .int p4)] []) (by
    intro hv
    replace hw := hv
    clear hv
    refine r_iconst (v := (0 : Int32)) C dX6_kind_36 (by decide) ?_
    exact (r_subk hw ⟨rfl, rfl, rfl, rfl, rfl, rfl, trivial⟩)
    )
  refine r_if_eq C 36 dX6_kind_6 (by decide) (fun z32 => ?_) (fun z32 => ?_)
  · replace hw := hw.1 z32
    exact (r_subk hw ⟨rfl, rfl, rfl, rfl, rfl, rfl, trivial⟩)
  · replace hw := hw.2 z32
    refine r_iload_n C dX6_kind_9 rfl rfl ?_
    refine r_iconst (v := (0 : Int32)) C dX6_kind_10 (by decide) ?_
    refine r_sipush (v := (255 : Int32)) C dX6_kind_11 (by decide) ?_
    refine r_callS (As := [.int p2, .int (0 : Int32), .int (255 : Int32)]) (st := []) C (m_X6_in hl hw) v_X6_in w_913 rfl ⟨leb rfl, leb rfl⟩ ⟨leb rfl, leb rfl⟩ rfl (leb rfl) dX6_kind_14 (fun _ _ z => z.elim) (kpI (K := fun hK sK => WS E p l e (rmOf 2 0 0 42) s m args below meth c 7 (vx_MQ below (qcP E (poV post)) (xcP E (pxN)) args s 0 0 (bsA E)) hK (0 + 0) (0 + 0) (14 + 3) [(0, .ref this), (1, .int p0), (2, .int p1), (3, .int p2), (4, .int p3), (5, .int p4)] sK) (fun x33 hv => ?_))
    replace hw := hv
    clear hv
    refine r_if_eq C 36 dX6_kind_17 (by decide) (fun z34 => ?_) (fun z34 => ?_)
    · replace hw := hw.1 z34
      exact (r_subk hw ⟨rfl, rfl, rfl, rfl, rfl, rfl, trivial⟩)
    · replace hw := hw.2 z34
      refine r_iload C dX6_kind_20 rfl ?_
      refine r_iconst (v := (0 : Int32)) C dX6_kind_22 (by decide) ?_
      refine r_sipush (v := (255 : Int32)) C dX6_kind_23 (by decide) ?_
      refine r_callS (As := [.int p3, .int (0 : Int32), .int (255 : Int32)]) (st := []) C (m_X6_in hl hw) v_X6_in w_913 rfl ⟨leb rfl, leb rfl⟩ ⟨leb rfl, leb rfl⟩ rfl (leb rfl) dX6_kind_26 (fun _ _ z => z.elim) (kpI (K := fun hK sK => WS E p l e (rmOf 2 0 0 42) s m args below meth c 7 (vx_MQ below (qcP E (poV post)) (xcP E (pxN)) args s 0 0 (bsA E)) hK (0 + 0) (0 + 0) (26 + 3) [(0, .ref this), (1, .int p0), (2, .int p1), (3, .int p2), (4, .int p3), (5, .int p4)] sK) (fun x35 hv => ?_))
      replace hw := hv
      clear hv
      refine r_if_eq C 36 dX6_kind_29 (by decide) (fun z36 => ?_) (fun z36 => ?_)
      · replace hw := hw.1 z36
        exact (r_subk hw ⟨rfl, rfl, rfl, rfl, rfl, rfl, trivial⟩)
      · replace hw := hw.2 z36
        refine r_iconst (v := (1 : Int32)) C dX6_kind_32 (by decide) ?_
        refine r_goto C 37 dX6_kind_33 (by decide) ?_
        exact (r_subk hw ⟨rfl, rfl, rfl, rfl, rfl, rfl, trivial⟩)
theorem v_X6_kind : MV yX6_kind cX6_kind 7 none 5 := ⟨w_912, w_910, w_911, w_60, ⟨by decide +kernel, by decide +kernel, by decide +kernel⟩⟩

def wp_X6_lot (h : Hp) (this : Nat) (p0 : Int32) (p1 : Int32) (p2 : Int32) (post : Int32 → Hp → Prop) : Prop :=
wp_X6_in h p1 (1 : Int32) (99 : Int32) (fun x1 =>
 (∀ J25 : Int32 → Prop, (∀ (t25_0 : Int32), (wp_X6_isKind h p0 (fun x2 =>
 (∀ J62 : Int32 → Prop, (∀ (t62_0 : Int32), (hT h this = 8 ∧
 wp_X6_goesWell h this t62_0 (fun x3 h3 =>
 ((x3 = 0 →
 post (0 : Int32) h3) ∧ (¬ (x3 = 0) →
 (hT h3 this = 8 ∧
 (∃ a7 : Nat, hR h3 this 6 = some a7 ∧
 (∃ x8 : Int32, hI h3 this 5 = x8 ∧
 (hT h3 a7 = 20 ∧
 (∃ j10 : Nat, x8 = nI j10 ∧ j10 < 2147483648 ∧ j10 < hL h3 a7 ∧
 (∀ h11, h11 = sI h3 a7 j10 p0 →
 (∃ a13 : Nat, hR h11 this 7 = some a13 ∧
 (∃ x14 : Int32, hI h11 this 5 = x14 ∧
 (hT h11 a13 = 20 ∧
 (∃ j16 : Nat, x14 = nI j16 ∧ j16 < 2147483648 ∧ j16 < hL h11 a13 ∧
 (∀ h17, h17 = sI h11 a13 j16 p1 →
 (∃ a19 : Nat, hR h17 this 8 = some a19 ∧
 (∃ x20 : Int32, hI h17 this 5 = x20 ∧
 (hT h17 a19 = 20 ∧
 (∃ j22 : Nat, x20 = nI j22 ∧ j22 < 2147483648 ∧ j22 < hL h17 a19 ∧
 (∀ h23, h23 = sI h17 a19 j22 p2 →
 (∃ x25 : Int32, hI h23 this 5 = x25 ∧
 (∀ h26, h26 = sI h23 this 5 (x25 + (1 : Int32)) →
 (∃ x28 : Int32, hI h26 this 5 = x28 ∧
 post (x28 - (1 : Int32)) h26))))))))))))))))))))))) → J62 t62_0) →
 ((x2 = 0 →
 J62 (1 : Int32)) ∧ (¬ (x2 = 0) →
 ((t25_0 = 0 →
 J62 (2 : Int32)) ∧ (¬ (t25_0 = 0) →
 (hT h this = 8 ∧
 (∃ x32 : Int32, hI h this 5 = x32 ∧
 ((x32 = (40 : Int32) →
 J62 (3 : Int32)) ∧ (¬ (x32 = (40 : Int32)) →
 J62 (0 : Int32)))))))))))) → J25 t25_0) →
 (∀ J24 : Prop, ((J25 (0 : Int32)) → J24) →
 ((x1 = 0 →
 J24) ∧ (¬ (x1 = 0) →
 wp_X6_in h p2 (1 : Int32) (50 : Int32) (fun x35 =>
 ((x35 = 0 →
 J24) ∧ (¬ (x35 = 0) →
 J25 (1 : Int32)))))))))
set_option maxHeartbeats 4000000 in
set_option maxRecDepth 100000 in
theorem m_X6_lot {E : Ev} {l : Launch} (hl : l.stackTraces = false) {h : Hp} {this : Nat} {p0 : Int32} {p1 : Int32} {p2 : Int32} {post : Int32 → Hp → Prop} (hw : wp_X6_lot h this p0 p1 p2 post) : MT E l yX6_lot cX6_lot 5 (some .int) 2 42 0 0 h [.ref this, .int p0, .int p1, .int p2] (poI post) (pxN) := by
  refine MT.of (by decide) hl (Nat.le_of_ble_eq_true rfl) (fun p e s m args below meth c C => ?_)
  unfold wp_X6_lot at hw
  have C : CX E p l s m args meth c cX6_lot 5 "TaktLineModel" "lot" (some .int) [] := C
  show WS E p l e (rmOf 2 0 0 42) s m args below meth c 5 (vx_MQ below (qcP E (poI post)) (xcP E (pxN)) args s 0 0 (bsA E)) h 0 0 0 [(0, .ref this), (1, .int p0), (2, .int p1), (3, .int p2)] []
  refine r_iload_n C dX6_lot_0 rfl rfl ?_
  refine r_iconst (v := (1 : Int32)) C dX6_lot_1 (by decide) ?_
  refine r_bipush (v := (99 : Int32)) C dX6_lot_2 (by decide) ?_
  refine r_callS (As := [.int p1, .int (1 : Int32), .int (99 : Int32)]) (st := []) C (m_X6_in hl hw) v_X6_in w_913 rfl ⟨leb rfl, leb rfl⟩ ⟨leb rfl, leb rfl⟩ rfl (leb rfl) dX6_lot_4 (fun _ _ z => z.elim) (kpI (K := fun hK sK => WS E p l e (rmOf 2 0 0 42) s m args below meth c 5 (vx_MQ below (qcP E (poI post)) (xcP E (pxN)) args s 0 0 (bsA E)) hK (0 + 0) (0 + 0) (4 + 3) [(0, .ref this), (1, .int p0), (2, .int p1), (3, .int p2)] sK) (fun x1 hv => ?_))
  replace hw := hv
  clear hv
  replace hw := hw (fun (t25_0 : Int32) => WS E p l e (rmOf 2 0 0 42) s m args below meth c 5 (vx_MQ below (qcP E (poI post)) (xcP E (pxN)) args s 0 0 (bsA E)) h 0 0 25 [(0, .ref this), (1, .int p0), (2, .int p1), (3, .int p2)] [.int t25_0]) (by
    intro t25_0 hv
    replace hw := hv
    clear hv
    refine r_istore C dX6_lot_25 (by decide) [(0, .ref this), (1, .int p0), (2, .int p1), (3, .int p2), (4, .int t25_0)] ⟨rfl, rfl, rfl, rfl, rfl, trivial⟩ ?_
    refine r_aload_n C dX6_lot_27 rfl rfl ?_
    refine r_iload_n C dX6_lot_28 rfl rfl ?_
    refine r_callS (As := [.int p0]) (st := [.ref this]) C (m_X6_isKind hl hw) v_X6_isKind w_916 rfl ⟨leb rfl, leb rfl⟩ ⟨leb rfl, leb rfl⟩ rfl (leb rfl) dX6_lot_29 (fun _ _ z => z.elim) (kpI (K := fun hK sK => WS E p l e (rmOf 2 0 0 42) s m args below meth c 5 (vx_MQ below (qcP E (poI post)) (xcP E (pxN)) args s 0 0 (bsA E)) hK (0 + 0) (0 + 0) (29 + 3) [(0, .ref this), (1, .int p0), (2, .int p1), (3, .int p2), (4, .int t25_0)] sK) (fun x2 hv => ?_))
    replace hw := hv
    clear hv
    replace hw := hw (fun (t62_0 : Int32) => WS E p l e (rmOf 2 0 0 42) s m args below meth c 5 (vx_MQ below (qcP E (poI post)) (xcP E (pxN)) args s 0 0 (bsA E)) h 0 0 62 [(0, .ref this), (1, .int p0), (2, .int p1), (3, .int p2)] [.int t62_0, .ref this]) (by
      intro t62_0 hv
      replace hw := hv
      clear hv
      obtain ⟨g4, hw⟩ := hw
      refine r_callV (As := [.int t62_0]) (st := []) C (m_X6_goesWell hl hw) v_X6_goesWell w_919 K8 g4 (by decide) ob8 rfl ⟨leb rfl, leb rfl⟩ ⟨leb rfl, leb rfl⟩ rfl (leb rfl) dX6_lot_62 (fun _ _ z => z.elim) (kkI (K := fun hK sK => WS E p l e (rmOf 2 0 0 42) s m args below meth c 5 (vx_MQ below (qcP E (poI post)) (xcP E (pxN)) args s 0 0 (bsA E)) hK (0 + 0) (0 + 0) (62 + 3) [(0, .ref this), (1, .int p0), (2, .int p1), (3, .int p2)] sK) (fun x3 h3 hv => ?_))
      replace hw := hv
      clear hv
      refine r_if_ne C 70 dX6_lot_65 (by decide) (fun z5 => ?_) (fun z5 => ?_)
      · replace hw := hw.2 z5
        refine r_aload_n C dX6_lot_70 rfl rfl ?_
        obtain ⟨g6, hw⟩ := hw
        obtain ⟨a7, e7, hw⟩ := hw
        refine r_getA C K8 ob8 g6 (by decide) 6 (by decide) w_819 (fun _ z => z) e7 rfl dX6_lot_71 ?_
        refine r_aload_n C dX6_lot_74 rfl rfl ?_
        obtain ⟨x8, e8, hw⟩ := hw
        refine r_getI C K8 ob8 g6 (by decide) 5 (by decide) w_818 (fun _ z => z) e8 rfl dX6_lot_75 ?_
        refine r_iload_n C dX6_lot_78 rfl rfl ?_
        obtain ⟨g9, hw⟩ := hw
        obtain ⟨j10, f10, l10, k10, hw⟩ := hw
        obtain ⟨h11, eh11⟩ : ∃ z, z = sI h3 a7 j10 p0 := ⟨_, rfl⟩
        replace hw := hw h11 eh11
        refine s_I C g9 f10 l10 k10 dX6_lot_79 eh11 ?_
        refine r_aload_n C dX6_lot_80 rfl rfl ?_
        have g12 : hT h11 this = 8 := by rw [eh11]; exact g6
        obtain ⟨a13, e13, hw⟩ := hw
        refine r_getA C K8 ob8 g12 (by decide) 7 (by decide) w_820 (fun _ z => z) e13 rfl dX6_lot_81 ?_
        refine r_aload_n C dX6_lot_84 rfl rfl ?_
        obtain ⟨x14, e14, hw⟩ := hw
        refine r_getI C K8 ob8 g12 (by decide) 5 (by decide) w_818 (fun _ z => z) e14 rfl dX6_lot_85 ?_
        refine r_iload_n C dX6_lot_88 rfl rfl ?_
        obtain ⟨g15, hw⟩ := hw
        obtain ⟨j16, f16, l16, k16, hw⟩ := hw
        obtain ⟨h17, eh17⟩ : ∃ z, z = sI h11 a13 j16 p1 := ⟨_, rfl⟩
        replace hw := hw h17 eh17
        refine s_I C g15 f16 l16 k16 dX6_lot_89 eh17 ?_
        refine r_aload_n C dX6_lot_90 rfl rfl ?_
        have g18 : hT h17 this = 8 := by rw [eh17]; exact g12
        obtain ⟨a19, e19, hw⟩ := hw
        refine r_getA C K8 ob8 g18 (by decide) 8 (by decide) w_821 (fun _ z => z) e19 rfl dX6_lot_91 ?_
        refine r_aload_n C dX6_lot_94 rfl rfl ?_
        obtain ⟨x20, e20, hw⟩ := hw
        refine r_getI C K8 ob8 g18 (by decide) 5 (by decide) w_818 (fun _ z => z) e20 rfl dX6_lot_95 ?_
        refine r_iload_n C dX6_lot_98 rfl rfl ?_
        obtain ⟨g21, hw⟩ := hw
        obtain ⟨j22, f22, l22, k22, hw⟩ := hw
        obtain ⟨h23, eh23⟩ : ∃ z, z = sI h17 a19 j22 p2 := ⟨_, rfl⟩
        replace hw := hw h23 eh23
        refine s_I C g21 f22 l22 k22 dX6_lot_99 eh23 ?_
        refine r_aload_n C dX6_lot_100 rfl rfl ?_
        refine r_dup C dX6_lot_101 rfl ?_
        have g24 : hT h23 this = 8 := by rw [eh23]; exact g18
        obtain ⟨x25, e25, hw⟩ := hw
        refine r_getI C K8 ob8 g24 (by decide) 5 (by decide) w_818 (fun _ z => z) e25 rfl dX6_lot_102 ?_
        refine r_iconst (v := (1 : Int32)) C dX6_lot_105 (by decide) ?_
        refine r_iadd C dX6_lot_106 ?_
        obtain ⟨h26, eh26⟩ : ∃ z, z = sI h23 this 5 (x25 + (1 : Int32)) := ⟨_, rfl⟩
        replace hw := hw h26 eh26
        refine p_I C K8 ob8 g24 (by decide) 5 (by decide) w_818 (fun _ z => z) rfl (by decide +kernel) (Nat.le_of_ble_eq_true rfl) rfl dX6_lot_107 eh26 ?_
        refine r_aload_n C dX6_lot_110 rfl rfl ?_
        have g27 : hT h26 this = 8 := by rw [eh26]; exact g24
        obtain ⟨x28, e28, hw⟩ := hw
        refine r_getI C K8 ob8 g27 (by decide) 5 (by decide) w_818 (fun _ z => z) e28 rfl dX6_lot_111 ?_
        refine r_iconst (v := (1 : Int32)) C dX6_lot_114 (by decide) ?_
        refine r_isub C dX6_lot_115 ?_
        exact r_iret C dX6_lot_116 (by decide) (by decide) ⟨_, rfl, hw⟩
      · replace hw := hw.1 z5
        refine r_iconst (v := (0 : Int32)) C dX6_lot_68 (by decide) ?_
        exact r_iret C dX6_lot_69 (by decide) (by decide) ⟨_, rfl, hw⟩
      )
    refine r_if_ne C 39 dX6_lot_32 (by decide) (fun z29 => ?_) (fun z29 => ?_)
    · replace hw := hw.2 z29
      refine r_iload C dX6_lot_39 rfl ?_
      refine r_if_ne C 48 dX6_lot_41 (by decide) (fun z30 => ?_) (fun z30 => ?_)
      · replace hw := hw.2 z30
        refine r_aload_n C dX6_lot_48 rfl rfl ?_
        obtain ⟨g31, hw⟩ := hw
        obtain ⟨x32, e32, hw⟩ := hw
        refine r_getI C K8 ob8 g31 (by decide) 5 (by decide) w_818 (fun _ z => z) e32 rfl dX6_lot_49 ?_
        refine r_bipush (v := (40 : Int32)) C dX6_lot_52 (by decide) ?_
        refine r_icmp_ne C 61 dX6_lot_54 (by decide) (fun z33 => ?_) (fun z33 => ?_)
        · replace hw := hw.2 z33
          refine r_iconst (v := (0 : Int32)) C dX6_lot_61 (by decide) ?_
          exact (r_subk hw ⟨rfl, rfl, rfl, rfl, trivial⟩)
        · replace hw := hw.1 z33
          refine r_iconst (v := (3 : Int32)) C dX6_lot_57 (by decide) ?_
          refine r_goto C 62 dX6_lot_58 (by decide) ?_
          exact (r_subk hw ⟨rfl, rfl, rfl, rfl, trivial⟩)
      · replace hw := hw.1 z30
        refine r_iconst (v := (2 : Int32)) C dX6_lot_44 (by decide) ?_
        refine r_goto C 62 dX6_lot_45 (by decide) ?_
        exact (r_subk hw ⟨rfl, rfl, rfl, rfl, trivial⟩)
    · replace hw := hw.1 z29
      refine r_iconst (v := (1 : Int32)) C dX6_lot_35 (by decide) ?_
      refine r_goto C 62 dX6_lot_36 (by decide) ?_
      exact (r_subk hw ⟨rfl, rfl, rfl, rfl, trivial⟩)
    )
  replace hw := hw (WS E p l e (rmOf 2 0 0 42) s m args below meth c 5 (vx_MQ below (qcP E (poI post)) (xcP E (pxN)) args s 0 0 (bsA E)) h 0 0 24 [(0, .ref this), (1, .int p0), (2, .int p1), (3, .int p2)] []) (by
    intro hv
    replace hw := hv
    clear hv
    refine r_iconst (v := (0 : Int32)) C dX6_lot_24 (by decide) ?_
    exact (r_subk hw ⟨rfl, rfl, rfl, rfl, trivial⟩)
    )
  refine r_if_eq C 24 dX6_lot_7 (by decide) (fun z34 => ?_) (fun z34 => ?_)
  · replace hw := hw.1 z34
    exact (r_subk hw ⟨rfl, rfl, rfl, rfl, trivial⟩)
  · replace hw := hw.2 z34
    refine r_iload_n C dX6_lot_10 rfl rfl ?_
    refine r_iconst (v := (1 : Int32)) C dX6_lot_11 (by decide) ?_
    refine r_bipush (v := (50 : Int32)) C dX6_lot_12 (by decide) ?_
    refine r_callS (As := [.int p2, .int (1 : Int32), .int (50 : Int32)]) (st := []) C (m_X6_in hl hw) v_X6_in w_913 rfl ⟨leb rfl, leb rfl⟩ ⟨leb rfl, leb rfl⟩ rfl (leb rfl) dX6_lot_14 (fun _ _ z => z.elim) (kpI (K := fun hK sK => WS E p l e (rmOf 2 0 0 42) s m args below meth c 5 (vx_MQ below (qcP E (poI post)) (xcP E (pxN)) args s 0 0 (bsA E)) hK (0 + 0) (0 + 0) (14 + 3) [(0, .ref this), (1, .int p0), (2, .int p1), (3, .int p2)] sK) (fun x35 hv => ?_))
    replace hw := hv
    clear hv
    refine r_if_eq C 24 dX6_lot_17 (by decide) (fun z36 => ?_) (fun z36 => ?_)
    · replace hw := hw.1 z36
      exact (r_subk hw ⟨rfl, rfl, rfl, rfl, trivial⟩)
    · replace hw := hw.2 z36
      refine r_iconst (v := (1 : Int32)) C dX6_lot_20 (by decide) ?_
      refine r_goto C 25 dX6_lot_21 (by decide) ?_
      exact (r_subk hw ⟨rfl, rfl, rfl, rfl, trivial⟩)
theorem v_X6_lot : MV yX6_lot cX6_lot 5 (some .int) 3 := ⟨w_926, w_924, w_925, w_60, ⟨by decide +kernel, by decide +kernel, by decide +kernel⟩⟩

def wp_X6_recall (h : Hp) (this : Nat) (p0 : Int32) (post : Int32 → Hp → Prop) : Prop :=
(hT h this = 8 ∧
 wp_X6_isLot h this p0 (fun x1 =>
 (∀ J29 : Int32 → Prop, (∀ (t29_0 : Int32), (wp_X6_goesWell h this t29_0 (fun x3 h3 =>
 ((x3 = 0 →
 post (0 : Int32) h3) ∧ (¬ (x3 = 0) →
 (hT h3 this = 8 ∧
 (∃ a6 : Nat, hR h3 this 9 = some a6 ∧
 (hT h3 a6 = 21 ∧
 (∃ j8 : Nat, p0 = nI j8 ∧ j8 < 2147483648 ∧ j8 < hL h3 a6 ∧
 (∀ h9, h9 = sI h3 a6 j8 (1 : Int32) →
 (∀ J49 : Int32 → Int32 → Prop, (∀ (v49_3 : Int32) (v49_4 : Int32), (∃ x11 : Int32, hI h9 this 10 = x11 ∧
 ((x11 ≤ v49_4 →
 post v49_3 h9) ∧ (¬ (x11 ≤ v49_4) →
 (∃ a13 : Nat, hR h9 this 14 = some a13 ∧
 (∃ a14 : Nat, hR h9 this 6 = some a14 ∧
 (hT h9 a14 = 20 ∧
 (∃ j16 : Nat, p0 = nI j16 ∧ j16 < 2147483648 ∧ j16 < hL h9 a14 ∧
 (∃ x17 : Int32, hI h9 a14 j16 = x17 ∧
 (hT h9 a13 = 20 ∧
 (∃ j19 : Nat, ((10 : Int32) * v49_4) + x17 = nI j19 ∧ j19 < 2147483648 ∧ j19 < hL h9 a13 ∧
 (∃ x20 : Int32, hI h9 a13 j19 = x20 ∧
 (∀ J87 : Int32 → Prop, (∀ (t87_0 : Int32), (J49 (v49_3 + t87_0) (v49_4 + (1 : Int32))) → J87 t87_0) →
 ((x20 = (p0 + (1 : Int32)) →
 J87 (1 : Int32)) ∧ (¬ (x20 = (p0 + (1 : Int32))) →
 J87 (0 : Int32))))))))))))))) → J49 v49_3 v49_4) →
 J49 (0 : Int32) (0 : Int32))))))))))) → J29 t29_0) →
 ((x1 = 0 →
 J29 (1 : Int32)) ∧ (¬ (x1 = 0) →
 (∃ a23 : Nat, hR h this 9 = some a23 ∧
 (hT h a23 = 21 ∧
 (∃ j25 : Nat, p0 = nI j25 ∧ j25 < 2147483648 ∧ j25 < hL h a23 ∧
 (∃ x26 : Int32, hI h a23 j25 = x26 ∧
 ((x26 = 0 →
 J29 (0 : Int32)) ∧ (¬ (x26 = 0) →
 J29 (2 : Int32))))))))))))
set_option maxHeartbeats 4000000 in
set_option maxRecDepth 100000 in
theorem m_X6_recall {E : Ev} {l : Launch} (hl : l.stackTraces = false) {h : Hp} {this : Nat} {p0 : Int32} {post : Int32 → Hp → Prop} (hw : wp_X6_recall h this p0 post) : MT E l yX6_recall cX6_recall 5 (some .int) 2 43 0 0 h [.ref this, .int p0] (poI post) (pxN) := by
  refine MT.of (by decide) hl (Nat.le_of_ble_eq_true rfl) (fun p e s m args below meth c C => ?_)
  unfold wp_X6_recall at hw
  have C : CX E p l s m args meth c cX6_recall 5 "TaktLineModel" "recall" (some .int) [] := C
  show WS E p l e (rmOf 2 0 0 43) s m args below meth c 5 (vx_MQ below (qcP E (poI post)) (xcP E (pxN)) args s 0 0 (bsA E)) h 0 0 0 [(0, .ref this), (1, .int p0)] []
  refine r_aload_n C dX6_recall_0 rfl rfl ?_
  refine r_iload_n C dX6_recall_1 rfl rfl ?_
  obtain ⟨g2, hw⟩ := hw
  refine r_callV (As := [.int p0]) (st := []) C (m_X6_isLot hl hw) v_X6_isLot w_931 K8 g2 (by decide) ob8 rfl ⟨leb rfl, leb rfl⟩ ⟨leb rfl, leb rfl⟩ rfl (leb rfl) dX6_recall_2 (fun _ _ z => z.elim) (kpI (K := fun hK sK => WS E p l e (rmOf 2 0 0 43) s m args below meth c 5 (vx_MQ below (qcP E (poI post)) (xcP E (pxN)) args s 0 0 (bsA E)) hK (0 + 0) (0 + 0) (2 + 3) [(0, .ref this), (1, .int p0)] sK) (fun x1 hv => ?_))
  replace hw := hv
  clear hv
  refine r_istore_n C dX6_recall_5 rfl (by decide) [(0, .ref this), (1, .int p0), (2, .int x1)] ⟨rfl, rfl, rfl, trivial⟩ ?_
  refine r_aload_n C dX6_recall_6 rfl rfl ?_
  refine r_iload_n C dX6_recall_7 rfl rfl ?_
  replace hw := hw (fun (t29_0 : Int32) => WS E p l e (rmOf 2 0 0 43) s m args below meth c 5 (vx_MQ below (qcP E (poI post)) (xcP E (pxN)) args s 0 0 (bsA E)) h 0 0 29 [(0, .ref this), (1, .int p0)] [.int t29_0, .ref this]) (by
    intro t29_0 hv
    replace hw := hv
    clear hv
    refine r_callV (As := [.int t29_0]) (st := []) C (m_X6_goesWell hl hw) v_X6_goesWell w_919 K8 g2 (by decide) ob8 rfl ⟨leb rfl, leb rfl⟩ ⟨leb rfl, leb rfl⟩ rfl (leb rfl) dX6_recall_29 (fun _ _ z => z.elim) (kkI (K := fun hK sK => WS E p l e (rmOf 2 0 0 43) s m args below meth c 5 (vx_MQ below (qcP E (poI post)) (xcP E (pxN)) args s 0 0 (bsA E)) hK (0 + 0) (0 + 0) (29 + 3) [(0, .ref this), (1, .int p0)] sK) (fun x3 h3 hv => ?_))
    replace hw := hv
    clear hv
    refine r_if_ne C 37 dX6_recall_32 (by decide) (fun z4 => ?_) (fun z4 => ?_)
    · replace hw := hw.2 z4
      refine r_aload_n C dX6_recall_37 rfl rfl ?_
      obtain ⟨g5, hw⟩ := hw
      obtain ⟨a6, e6, hw⟩ := hw
      refine r_getA C K8 ob8 g5 (by decide) 9 (by decide) w_822 (fun _ z => z) e6 rfl dX6_recall_38 ?_
      refine r_iload_n C dX6_recall_41 rfl rfl ?_
      refine r_iconst (v := (1 : Int32)) C dX6_recall_42 (by decide) ?_
      obtain ⟨g7, hw⟩ := hw
      obtain ⟨j8, f8, l8, k8, hw⟩ := hw
      obtain ⟨h9, eh9⟩ : ∃ z, z = sI h3 a6 j8 (1 : Int32) := ⟨_, rfl⟩
      replace hw := hw h9 eh9
      refine s_B C g7 f8 l8 k8 (Or.inr rfl) dX6_recall_43 eh9 ?_
      refine r_iconst (v := (0 : Int32)) C dX6_recall_44 (by decide) ?_
      refine r_istore_n C dX6_recall_45 rfl (by decide) [(0, .ref this), (1, .int p0), (3, .int (0 : Int32))] ⟨rfl, rfl, rfl, trivial⟩ ?_
      refine r_iconst (v := (0 : Int32)) C dX6_recall_46 (by decide) ?_
      refine r_istore C dX6_recall_47 (by decide) [(0, .ref this), (1, .int p0), (3, .int (0 : Int32)), (4, .int (0 : Int32))] ⟨rfl, rfl, rfl, rfl, trivial⟩ ?_
      replace hw := hw (fun (v49_3 : Int32) (v49_4 : Int32) => WS E p l e (rmOf 2 0 0 43) s m args below meth c 5 (vx_MQ below (qcP E (poI post)) (xcP E (pxN)) args s 0 0 (bsA E)) h9 0 0 49 [(0, .ref this), (1, .int p0), (3, .int v49_3), (4, .int v49_4)] []) (by
        intro v49_3 v49_4 hv
        replace hw := hv
        clear hv
        refine r_iload C dX6_recall_49 rfl ?_
        refine r_aload_n C dX6_recall_51 rfl rfl ?_
        have g10 : hT h9 this = 8 := by rw [eh9]; exact g5
        obtain ⟨x11, e11, hw⟩ := hw
        refine r_getI C K8 ob8 g10 (by decide) 10 (by decide) w_823 (fun _ z => z) e11 rfl dX6_recall_52 ?_
        refine r_icmp_ge C 95 dX6_recall_55 (by decide) (fun z12 => ?_) (fun z12 => ?_)
        · replace hw := hw.1 z12
          refine r_iload_n C dX6_recall_95 rfl rfl ?_
          exact r_iret C dX6_recall_96 (by decide) (by decide) ⟨_, rfl, hw⟩
        · replace hw := hw.2 z12
          refine r_iload_n C dX6_recall_58 rfl rfl ?_
          refine r_aload_n C dX6_recall_59 rfl rfl ?_
          obtain ⟨a13, e13, hw⟩ := hw
          refine r_getA C K8 ob8 g10 (by decide) 14 (by decide) w_827 (fun _ z => z) e13 rfl dX6_recall_60 ?_
          refine r_bipush (v := (10 : Int32)) C dX6_recall_63 (by decide) ?_
          refine r_iload C dX6_recall_65 rfl ?_
          refine r_imul C dX6_recall_67 ?_
          refine r_aload_n C dX6_recall_68 rfl rfl ?_
          obtain ⟨a14, e14, hw⟩ := hw
          refine r_getA C K8 ob8 g10 (by decide) 6 (by decide) w_819 (fun _ z => z) e14 rfl dX6_recall_69 ?_
          refine r_iload_n C dX6_recall_72 rfl rfl ?_
          obtain ⟨g15, hw⟩ := hw
          obtain ⟨j16, f16, l16, k16, hw⟩ := hw
          obtain ⟨x17, e17, hw⟩ := hw
          refine a_I C g15 f16 l16 k16 e17 dX6_recall_73 ?_
          refine r_iadd C dX6_recall_74 ?_
          obtain ⟨g18, hw⟩ := hw
          obtain ⟨j19, f19, l19, k19, hw⟩ := hw
          obtain ⟨x20, e20, hw⟩ := hw
          refine a_I C g18 f19 l19 k19 e20 dX6_recall_75 ?_
          refine r_iload_n C dX6_recall_76 rfl rfl ?_
          refine r_iconst (v := (1 : Int32)) C dX6_recall_77 (by decide) ?_
          refine r_iadd C dX6_recall_78 ?_
          replace hw := hw (fun (t87_0 : Int32) => WS E p l e (rmOf 2 0 0 43) s m args below meth c 5 (vx_MQ below (qcP E (poI post)) (xcP E (pxN)) args s 0 0 (bsA E)) h9 0 0 87 [(0, .ref this), (1, .int p0), (4, .int v49_4)] [.int t87_0, .int v49_3]) (by
            intro t87_0 hv
            replace hw := hv
            clear hv
            refine r_iadd C dX6_recall_87 ?_
            refine r_istore_n C dX6_recall_88 rfl (by decide) [(0, .ref this), (1, .int p0), (3, .int (v49_3 + t87_0)), (4, .int v49_4)] ⟨rfl, rfl, rfl, rfl, trivial⟩ ?_
            refine r_iinc C (v49_4 + (1 : Int32)) dX6_recall_89 rfl rfl (by decide) [(0, .ref this), (1, .int p0), (3, .int (v49_3 + t87_0)), (4, .int (v49_4 + (1 : Int32)))] ⟨rfl, rfl, rfl, rfl, trivial⟩ ?_
            refine r_goto C 49 dX6_recall_92 (by decide) ?_
            exact (r_subk hw ⟨rfl, rfl, rfl, rfl, trivial⟩)
            )
          refine r_icmp_ne C 86 dX6_recall_79 (by decide) (fun z21 => ?_) (fun z21 => ?_)
          · replace hw := hw.2 z21
            refine r_iconst (v := (0 : Int32)) C dX6_recall_86 (by decide) ?_
            exact (r_subk hw ⟨rfl, rfl, rfl, trivial⟩)
          · replace hw := hw.1 z21
            refine r_iconst (v := (1 : Int32)) C dX6_recall_82 (by decide) ?_
            refine r_goto C 87 dX6_recall_83 (by decide) ?_
            exact (r_subk hw ⟨rfl, rfl, rfl, trivial⟩)
        )
      exact (r_subk hw ⟨rfl, rfl, rfl, rfl, trivial⟩)
    · replace hw := hw.1 z4
      refine r_iconst (v := (0 : Int32)) C dX6_recall_35 (by decide) ?_
      exact r_iret C dX6_recall_36 (by decide) (by decide) ⟨_, rfl, hw⟩
    )
  refine r_if_ne C 15 dX6_recall_8 (by decide) (fun z22 => ?_) (fun z22 => ?_)
  · replace hw := hw.2 z22
    refine r_aload_n C dX6_recall_15 rfl rfl ?_
    obtain ⟨a23, e23, hw⟩ := hw
    refine r_getA C K8 ob8 g2 (by decide) 9 (by decide) w_822 (fun _ z => z) e23 rfl dX6_recall_16 ?_
    refine r_iload_n C dX6_recall_19 rfl rfl ?_
    obtain ⟨g24, hw⟩ := hw
    obtain ⟨j25, f25, l25, k25, hw⟩ := hw
    obtain ⟨x26, e26, hw⟩ := hw
    refine a_B C g24 f25 l25 k25 e26 dX6_recall_20 ?_
    refine r_if_eq C 28 dX6_recall_21 (by decide) (fun z27 => ?_) (fun z27 => ?_)
    · replace hw := hw.1 z27
      refine r_iconst (v := (0 : Int32)) C dX6_recall_28 (by decide) ?_
      exact (r_subk hw ⟨rfl, rfl, trivial⟩)
    · replace hw := hw.2 z27
      refine r_iconst (v := (2 : Int32)) C dX6_recall_24 (by decide) ?_
      refine r_goto C 29 dX6_recall_25 (by decide) ?_
      exact (r_subk hw ⟨rfl, rfl, trivial⟩)
  · replace hw := hw.1 z22
    refine r_iconst (v := (1 : Int32)) C dX6_recall_11 (by decide) ?_
    refine r_goto C 29 dX6_recall_12 (by decide) ?_
    exact (r_subk hw ⟨rfl, rfl, trivial⟩)
theorem v_X6_recall : MV yX6_recall cX6_recall 5 (some .int) 1 := ⟨w_930, w_928, w_929, w_60, ⟨by decide +kernel, by decide +kernel, by decide +kernel⟩⟩

def wp_X6_units (h : Hp) (this : Nat) (p0 : Int32) (post : Int32 → Hp → Prop) : Prop :=
(hT h this = 8 ∧
 wp_X6_isLot h this p0 (fun x1 =>
 (∀ J14 : Int32 → Prop, (∀ (t14_0 : Int32), (wp_X6_goesWell h this t14_0 (fun x3 h3 =>
 (∀ J30 : Int32 → Prop, (∀ (t30_0 : Int32), (post t30_0 h3) → J30 t30_0) →
 ((x3 = 0 →
 J30 (0 : Int32)) ∧ (¬ (x3 = 0) →
 (hT h3 this = 8 ∧
 (∃ a6 : Nat, hR h3 this 8 = some a6 ∧
 (hT h3 a6 = 20 ∧
 (∃ j8 : Nat, p0 = nI j8 ∧ j8 < 2147483648 ∧ j8 < hL h3 a6 ∧
 (∃ x9 : Int32, hI h3 a6 j8 = x9 ∧
 J30 x9)))))))))) → J14 t14_0) →
 ((x1 = 0 →
 J14 (1 : Int32)) ∧ (¬ (x1 = 0) →
 J14 (0 : Int32))))))
set_option maxHeartbeats 4000000 in
set_option maxRecDepth 100000 in
theorem m_X6_units {E : Ev} {l : Launch} (hl : l.stackTraces = false) {h : Hp} {this : Nat} {p0 : Int32} {post : Int32 → Hp → Prop} (hw : wp_X6_units h this p0 post) : MT E l yX6_units cX6_units 2 (some .int) 2 43 0 0 h [.ref this, .int p0] (poI post) (pxN) := by
  refine MT.of (by decide) hl (Nat.le_of_ble_eq_true rfl) (fun p e s m args below meth c C => ?_)
  unfold wp_X6_units at hw
  have C : CX E p l s m args meth c cX6_units 2 "TaktLineModel" "units" (some .int) [] := C
  show WS E p l e (rmOf 2 0 0 43) s m args below meth c 2 (vx_MQ below (qcP E (poI post)) (xcP E (pxN)) args s 0 0 (bsA E)) h 0 0 0 [(0, .ref this), (1, .int p0)] []
  refine r_aload_n C dX6_units_0 rfl rfl ?_
  refine r_aload_n C dX6_units_1 rfl rfl ?_
  refine r_iload_n C dX6_units_2 rfl rfl ?_
  obtain ⟨g2, hw⟩ := hw
  refine r_callV (As := [.int p0]) (st := [.ref this]) C (m_X6_isLot hl hw) v_X6_isLot w_931 K8 g2 (by decide) ob8 rfl ⟨leb rfl, leb rfl⟩ ⟨leb rfl, leb rfl⟩ rfl (leb rfl) dX6_units_3 (fun _ _ z => z.elim) (kpI (K := fun hK sK => WS E p l e (rmOf 2 0 0 43) s m args below meth c 2 (vx_MQ below (qcP E (poI post)) (xcP E (pxN)) args s 0 0 (bsA E)) hK (0 + 0) (0 + 0) (3 + 3) [(0, .ref this), (1, .int p0)] sK) (fun x1 hv => ?_))
  replace hw := hv
  clear hv
  replace hw := hw (fun (t14_0 : Int32) => WS E p l e (rmOf 2 0 0 43) s m args below meth c 2 (vx_MQ below (qcP E (poI post)) (xcP E (pxN)) args s 0 0 (bsA E)) h 0 0 14 [(0, .ref this), (1, .int p0)] [.int t14_0, .ref this]) (by
    intro t14_0 hv
    replace hw := hv
    clear hv
    refine r_callV (As := [.int t14_0]) (st := []) C (m_X6_goesWell hl hw) v_X6_goesWell w_919 K8 g2 (by decide) ob8 rfl ⟨leb rfl, leb rfl⟩ ⟨leb rfl, leb rfl⟩ rfl (leb rfl) dX6_units_14 (fun _ _ z => z.elim) (kkI (K := fun hK sK => WS E p l e (rmOf 2 0 0 43) s m args below meth c 2 (vx_MQ below (qcP E (poI post)) (xcP E (pxN)) args s 0 0 (bsA E)) hK (0 + 0) (0 + 0) (14 + 3) [(0, .ref this), (1, .int p0)] sK) (fun x3 h3 hv => ?_))
    replace hw := hv
    clear hv
    replace hw := hw (fun (t30_0 : Int32) => WS E p l e (rmOf 2 0 0 43) s m args below meth c 2 (vx_MQ below (qcP E (poI post)) (xcP E (pxN)) args s 0 0 (bsA E)) h3 0 0 30 [] [.int t30_0]) (by
      intro t30_0 hv
      replace hw := hv
      clear hv
      exact r_iret C dX6_units_30 (by decide) (by decide) ⟨_, rfl, hw⟩
      )
    refine r_if_eq C 29 dX6_units_17 (by decide) (fun z4 => ?_) (fun z4 => ?_)
    · replace hw := hw.1 z4
      refine r_iconst (v := (0 : Int32)) C dX6_units_29 (by decide) ?_
      exact (r_subk hw trivial)
    · replace hw := hw.2 z4
      refine r_aload_n C dX6_units_20 rfl rfl ?_
      obtain ⟨g5, hw⟩ := hw
      obtain ⟨a6, e6, hw⟩ := hw
      refine r_getA C K8 ob8 g5 (by decide) 8 (by decide) w_821 (fun _ z => z) e6 rfl dX6_units_21 ?_
      refine r_iload_n C dX6_units_24 rfl rfl ?_
      obtain ⟨g7, hw⟩ := hw
      obtain ⟨j8, f8, l8, k8, hw⟩ := hw
      obtain ⟨x9, e9, hw⟩ := hw
      refine a_I C g7 f8 l8 k8 e9 dX6_units_25 ?_
      refine r_goto C 30 dX6_units_26 (by decide) ?_
      exact (r_subk hw trivial)
    )
  refine r_if_eq C 13 dX6_units_6 (by decide) (fun z10 => ?_) (fun z10 => ?_)
  · replace hw := hw.1 z10
    refine r_iconst (v := (1 : Int32)) C dX6_units_13 (by decide) ?_
    exact (r_subk hw ⟨rfl, rfl, trivial⟩)
  · replace hw := hw.2 z10
    refine r_iconst (v := (0 : Int32)) C dX6_units_9 (by decide) ?_
    refine r_goto C 14 dX6_units_10 (by decide) ?_
    exact (r_subk hw ⟨rfl, rfl, trivial⟩)
theorem v_X6_units : MV yX6_units cX6_units 2 (some .int) 1 := ⟨w_938, w_936, w_937, w_60, ⟨by decide +kernel, by decide +kernel, by decide +kernel⟩⟩

def wp_X6_doesNeed (h : Hp) (this : Nat) (p0 : Int32) (p1 : Int32) (post : Int32 → Prop) : Prop :=
(hT h this = 8 ∧
 (∃ a2 : Nat, hR h this 11 = some a2 ∧
 (hT h a2 = 20 ∧
 (∃ j4 : Nat, p0 = nI j4 ∧ j4 < 2147483648 ∧ j4 < hL h a2 ∧
 (∃ x5 : Int32, hI h a2 j4 = x5 ∧
 (∃ a6 : Nat, hR h this 2 = some a6 ∧
 (hT h a6 = 20 ∧
 (∃ j8 : Nat, p1 = nI j8 ∧ j8 < 2147483648 ∧ j8 < hL h a6 ∧
 (∃ x9 : Int32, hI h a6 j8 = x9 ∧
 (∃ a10 : Nat, hR h this 2 = some a10 ∧
 (hT h a10 = 20 ∧
 (∃ j12 : Nat, p1 = nI j12 ∧ j12 < 2147483648 ∧ j12 < hL h a10 ∧
 (∃ x13 : Int32, hI h a10 j12 = x13 ∧
 (∀ J43 : Int32 → Prop, (∀ (t43_0 : Int32), (b01 t43_0 ∧
 post t43_0) → J43 t43_0) →
 (∀ J42 : Prop, ((J43 (0 : Int32)) → J42) →
 (((x5 &&& x9) = x13 →
 (∃ a16 : Nat, hR h this 11 = some a16 ∧
 (hT h a16 = 20 ∧
 (∃ j18 : Nat, p0 = nI j18 ∧ j18 < 2147483648 ∧ j18 < hL h a16 ∧
 (∃ x19 : Int32, hI h a16 j18 = x19 ∧
 (∃ a20 : Nat, hR h this 3 = some a20 ∧
 (hT h a20 = 20 ∧
 (∃ j22 : Nat, p1 = nI j22 ∧ j22 < 2147483648 ∧ j22 < hL h a20 ∧
 (∃ x23 : Int32, hI h a20 j22 = x23 ∧
 (((x19 &&& x23) = 0 →
 J43 (1 : Int32)) ∧ (¬ ((x19 &&& x23) = 0) →
 J42))))))))))) ∧ (¬ ((x5 &&& x9) = x13) →
 J42)))))))))))))))))
set_option maxHeartbeats 4000000 in
set_option maxRecDepth 100000 in
theorem m_X6_doesNeed {E : Ev} {l : Launch} (hl : l.stackTraces = false) {h : Hp} {this : Nat} {p0 : Int32} {p1 : Int32} {post : Int32 → Prop} (hw : wp_X6_doesNeed h this p0 p1 post) : MT E l yX6_doesNeed cX6_doesNeed 3 (some .boolean) 0 0 0 0 h [.ref this, .int p0, .int p1] (puI h post) (pxN) := by
  refine MT.of (by decide) hl (Nat.le_of_ble_eq_true rfl) (fun p e s m args below meth c C => ?_)
  unfold wp_X6_doesNeed at hw
  have C : CX E p l s m args meth c cX6_doesNeed 3 "TaktLineModel" "doesNeed" (some .boolean) [] := C
  show WS E p l e (rmOf 0 0 0 0) s m args below meth c 3 (vx_MQ below (qcP E (puI h post)) (xcP E (pxN)) args s 0 0 (bsA E)) h 0 0 0 [(0, .ref this), (1, .int p0), (2, .int p1)] []
  refine r_aload_n C dX6_doesNeed_0 rfl rfl ?_
  obtain ⟨g1, hw⟩ := hw
  obtain ⟨a2, e2, hw⟩ := hw
  refine r_getA C K8 ob8 g1 (by decide) 11 (by decide) w_824 (fun _ z => z) e2 rfl dX6_doesNeed_1 ?_
  refine r_iload_n C dX6_doesNeed_4 rfl rfl ?_
  obtain ⟨g3, hw⟩ := hw
  obtain ⟨j4, f4, l4, k4, hw⟩ := hw
  obtain ⟨x5, e5, hw⟩ := hw
  refine a_I C g3 f4 l4 k4 e5 dX6_doesNeed_5 ?_
  refine r_aload_n C dX6_doesNeed_6 rfl rfl ?_
  obtain ⟨a6, e6, hw⟩ := hw
  refine r_getA C K8 ob8 g1 (by decide) 2 (by decide) w_815 (fun _ z => z) e6 rfl dX6_doesNeed_7 ?_
  refine r_iload_n C dX6_doesNeed_10 rfl rfl ?_
  obtain ⟨g7, hw⟩ := hw
  obtain ⟨j8, f8, l8, k8, hw⟩ := hw
  obtain ⟨x9, e9, hw⟩ := hw
  refine a_I C g7 f8 l8 k8 e9 dX6_doesNeed_11 ?_
  refine r_iand C dX6_doesNeed_12 ?_
  refine r_aload_n C dX6_doesNeed_13 rfl rfl ?_
  obtain ⟨a10, e10, hw⟩ := hw
  refine r_getA C K8 ob8 g1 (by decide) 2 (by decide) w_815 (fun _ z => z) e10 rfl dX6_doesNeed_14 ?_
  refine r_iload_n C dX6_doesNeed_17 rfl rfl ?_
  obtain ⟨g11, hw⟩ := hw
  obtain ⟨j12, f12, l12, k12, hw⟩ := hw
  obtain ⟨x13, e13, hw⟩ := hw
  refine a_I C g11 f12 l12 k12 e13 dX6_doesNeed_18 ?_
  replace hw := hw (fun (t43_0 : Int32) => WS E p l e (rmOf 0 0 0 0) s m args below meth c 3 (vx_MQ below (qcP E (puI h post)) (xcP E (pxN)) args s 0 0 (bsA E)) h 0 0 43 [] [.int t43_0]) (by
    intro t43_0 hv
    replace hw := hv
    clear hv
    obtain ⟨y14, hw⟩ := hw
    exact r_zret C y14 dX6_doesNeed_43 (by decide) (by decide) ⟨_, rfl, hw, rfl⟩
    )
  replace hw := hw (WS E p l e (rmOf 0 0 0 0) s m args below meth c 3 (vx_MQ below (qcP E (puI h post)) (xcP E (pxN)) args s 0 0 (bsA E)) h 0 0 42 [] []) (by
    intro hv
    replace hw := hv
    clear hv
    refine r_iconst (v := (0 : Int32)) C dX6_doesNeed_42 (by decide) ?_
    exact (r_subk hw trivial)
    )
  refine r_icmp_ne C 42 dX6_doesNeed_19 (by decide) (fun z15 => ?_) (fun z15 => ?_)
  · replace hw := hw.2 z15
    exact (r_subk hw trivial)
  · replace hw := hw.1 z15
    refine r_aload_n C dX6_doesNeed_22 rfl rfl ?_
    obtain ⟨a16, e16, hw⟩ := hw
    refine r_getA C K8 ob8 g1 (by decide) 11 (by decide) w_824 (fun _ z => z) e16 rfl dX6_doesNeed_23 ?_
    refine r_iload_n C dX6_doesNeed_26 rfl rfl ?_
    obtain ⟨g17, hw⟩ := hw
    obtain ⟨j18, f18, l18, k18, hw⟩ := hw
    obtain ⟨x19, e19, hw⟩ := hw
    refine a_I C g17 f18 l18 k18 e19 dX6_doesNeed_27 ?_
    refine r_aload_n C dX6_doesNeed_28 rfl rfl ?_
    obtain ⟨a20, e20, hw⟩ := hw
    refine r_getA C K8 ob8 g1 (by decide) 3 (by decide) w_816 (fun _ z => z) e20 rfl dX6_doesNeed_29 ?_
    refine r_iload_n C dX6_doesNeed_32 rfl rfl ?_
    obtain ⟨g21, hw⟩ := hw
    obtain ⟨j22, f22, l22, k22, hw⟩ := hw
    obtain ⟨x23, e23, hw⟩ := hw
    refine a_I C g21 f22 l22 k22 e23 dX6_doesNeed_33 ?_
    refine r_iand C dX6_doesNeed_34 ?_
    refine r_if_ne C 42 dX6_doesNeed_35 (by decide) (fun z24 => ?_) (fun z24 => ?_)
    · replace hw := hw.2 z24
      exact (r_subk hw trivial)
    · replace hw := hw.1 z24
      refine r_iconst (v := (1 : Int32)) C dX6_doesNeed_38 (by decide) ?_
      refine r_goto C 43 dX6_doesNeed_39 (by decide) ?_
      exact (r_subk hw trivial)
theorem v_X6_doesNeed : MV yX6_doesNeed cX6_doesNeed 3 (some .boolean) 2 := ⟨w_950, w_949, w_39, w_60, ⟨by decide +kernel, by decide +kernel, by decide +kernel⟩⟩

def wp_X6_doesLack (h : Hp) (this : Nat) (p0 : Int32) (p1 : Int32) (post : Int32 → Prop) : Prop :=
(hT h this = 8 ∧
 (∃ a2 : Nat, hR h this 14 = some a2 ∧
 (hT h a2 = 20 ∧
 (∃ j4 : Nat, ((10 : Int32) * p0) + p1 = nI j4 ∧ j4 < 2147483648 ∧ j4 < hL h a2 ∧
 (∃ x5 : Int32, hI h a2 j4 = x5 ∧
 wp_X6_doesNeed h this p0 p1 (fun x6 =>
 (∀ J41 : Int32 → Prop, (∀ (t41_0 : Int32), (b01 t41_0 ∧
 post t41_0) → J41 t41_0) →
 (∀ J40 : Prop, ((J41 (0 : Int32)) → J40) →
 ((x6 = 0 →
 J40) ∧ (¬ (x6 = 0) →
 (∀ J36 : Prop, ((J41 (1 : Int32)) → J36) →
 ((x5 = 0 →
 J36) ∧ (¬ (x5 = 0) →
 (∃ a10 : Nat, hR h this 9 = some a10 ∧
 (hT h a10 = 21 ∧
 (∃ j12 : Nat, x5 - (1 : Int32) = nI j12 ∧ j12 < 2147483648 ∧ j12 < hL h a10 ∧
 (∃ x13 : Int32, hI h a10 j12 = x13 ∧
 ((x13 = 0 →
 J40) ∧ (¬ (x13 = 0) →
 J36)))))))))))))))))))
set_option maxHeartbeats 4000000 in
set_option maxRecDepth 100000 in
theorem m_X6_doesLack {E : Ev} {l : Launch} (hl : l.stackTraces = false) {h : Hp} {this : Nat} {p0 : Int32} {p1 : Int32} {post : Int32 → Prop} (hw : wp_X6_doesLack h this p0 p1 post) : MT E l yX6_doesLack cX6_doesLack 4 (some .boolean) 1 22 0 0 h [.ref this, .int p0, .int p1] (puI h post) (pxN) := by
  refine MT.of (by decide) hl (Nat.le_of_ble_eq_true rfl) (fun p e s m args below meth c C => ?_)
  unfold wp_X6_doesLack at hw
  have C : CX E p l s m args meth c cX6_doesLack 4 "TaktLineModel" "doesLack" (some .boolean) [] := C
  show WS E p l e (rmOf 1 0 0 22) s m args below meth c 4 (vx_MQ below (qcP E (puI h post)) (xcP E (pxN)) args s 0 0 (bsA E)) h 0 0 0 [(0, .ref this), (1, .int p0), (2, .int p1)] []
  refine r_aload_n C dX6_doesLack_0 rfl rfl ?_
  obtain ⟨g1, hw⟩ := hw
  obtain ⟨a2, e2, hw⟩ := hw
  refine r_getA C K8 ob8 g1 (by decide) 14 (by decide) w_827 (fun _ z => z) e2 rfl dX6_doesLack_1 ?_
  refine r_bipush (v := (10 : Int32)) C dX6_doesLack_4 (by decide) ?_
  refine r_iload_n C dX6_doesLack_6 rfl rfl ?_
  refine r_imul C dX6_doesLack_7 ?_
  refine r_iload_n C dX6_doesLack_8 rfl rfl ?_
  refine r_iadd C dX6_doesLack_9 ?_
  obtain ⟨g3, hw⟩ := hw
  obtain ⟨j4, f4, l4, k4, hw⟩ := hw
  obtain ⟨x5, e5, hw⟩ := hw
  refine a_I C g3 f4 l4 k4 e5 dX6_doesLack_10 ?_
  refine r_istore_n C dX6_doesLack_11 rfl (by decide) [(0, .ref this), (1, .int p0), (2, .int p1), (3, .int x5)] ⟨rfl, rfl, rfl, rfl, trivial⟩ ?_
  refine r_aload_n C dX6_doesLack_12 rfl rfl ?_
  refine r_iload_n C dX6_doesLack_13 rfl rfl ?_
  refine r_iload_n C dX6_doesLack_14 rfl rfl ?_
  refine r_callV (As := [.int p0, .int p1]) (st := []) C (m_X6_doesNeed hl hw) v_X6_doesNeed w_947 K8 g1 (by decide) ob8 rfl ⟨leb rfl, leb rfl⟩ ⟨leb rfl, leb rfl⟩ rfl (leb rfl) dX6_doesLack_15 (fun _ _ z => z.elim) (kpI (K := fun hK sK => WS E p l e (rmOf 1 0 0 22) s m args below meth c 4 (vx_MQ below (qcP E (puI h post)) (xcP E (pxN)) args s 0 0 (bsA E)) hK (0 + 0) (0 + 0) (15 + 3) [(0, .ref this), (1, .int p0), (2, .int p1), (3, .int x5)] sK) (fun x6 hv => ?_))
  replace hw := hv
  clear hv
  replace hw := hw (fun (t41_0 : Int32) => WS E p l e (rmOf 1 0 0 22) s m args below meth c 4 (vx_MQ below (qcP E (puI h post)) (xcP E (pxN)) args s 0 0 (bsA E)) h 0 0 41 [] [.int t41_0]) (by
    intro t41_0 hv
    replace hw := hv
    clear hv
    obtain ⟨y7, hw⟩ := hw
    exact r_zret C y7 dX6_doesLack_41 (by decide) (by decide) ⟨_, rfl, hw, rfl⟩
    )
  replace hw := hw (WS E p l e (rmOf 1 0 0 22) s m args below meth c 4 (vx_MQ below (qcP E (puI h post)) (xcP E (pxN)) args s 0 0 (bsA E)) h 0 0 40 [] []) (by
    intro hv
    replace hw := hv
    clear hv
    refine r_iconst (v := (0 : Int32)) C dX6_doesLack_40 (by decide) ?_
    exact (r_subk hw trivial)
    )
  refine r_if_eq C 40 dX6_doesLack_18 (by decide) (fun z8 => ?_) (fun z8 => ?_)
  · replace hw := hw.1 z8
    exact (r_subk hw trivial)
  · replace hw := hw.2 z8
    refine r_iload_n C dX6_doesLack_21 rfl rfl ?_
    replace hw := hw (WS E p l e (rmOf 1 0 0 22) s m args below meth c 4 (vx_MQ below (qcP E (puI h post)) (xcP E (pxN)) args s 0 0 (bsA E)) h 0 0 36 [] []) (by
      intro hv
      replace hw := hv
      clear hv
      refine r_iconst (v := (1 : Int32)) C dX6_doesLack_36 (by decide) ?_
      refine r_goto C 41 dX6_doesLack_37 (by decide) ?_
      exact (r_subk hw trivial)
      )
    refine r_if_eq C 36 dX6_doesLack_22 (by decide) (fun z9 => ?_) (fun z9 => ?_)
    · replace hw := hw.1 z9
      exact (r_subk hw trivial)
    · replace hw := hw.2 z9
      refine r_aload_n C dX6_doesLack_25 rfl rfl ?_
      obtain ⟨a10, e10, hw⟩ := hw
      refine r_getA C K8 ob8 g1 (by decide) 9 (by decide) w_822 (fun _ z => z) e10 rfl dX6_doesLack_26 ?_
      refine r_iload_n C dX6_doesLack_29 rfl rfl ?_
      refine r_iconst (v := (1 : Int32)) C dX6_doesLack_30 (by decide) ?_
      refine r_isub C dX6_doesLack_31 ?_
      obtain ⟨g11, hw⟩ := hw
      obtain ⟨j12, f12, l12, k12, hw⟩ := hw
      obtain ⟨x13, e13, hw⟩ := hw
      refine a_B C g11 f12 l12 k12 e13 dX6_doesLack_32 ?_
      refine r_if_eq C 40 dX6_doesLack_33 (by decide) (fun z14 => ?_) (fun z14 => ?_)
      · replace hw := hw.1 z14
        exact (r_subk hw trivial)
      · replace hw := hw.2 z14
        exact (r_subk hw trivial)
theorem v_X6_doesLack : MV yX6_doesLack cX6_doesLack 4 (some .boolean) 2 := ⟨w_962, w_961, w_41, w_60, ⟨by decide +kernel, by decide +kernel, by decide +kernel⟩⟩

def wp_X6_needs (h : Hp) (this : Nat) (p0 : Int32) (post : Int32 → Hp → Prop) : Prop :=
(hT h this = 8 ∧
 wp_X6_isCar h this p0 (fun x1 =>
 (∀ J14 : Int32 → Prop, (∀ (t14_0 : Int32), (wp_X6_goesWell h this t14_0 (fun x3 h3 =>
 ((x3 = 0 →
 post (0 : Int32) h3) ∧ (¬ (x3 = 0) →
 (∀ J26 : Int32 → Int32 → Prop, (∀ (v26_2 : Int32) (v26_3 : Int32), (((10 : Int32) ≤ v26_3 →
 post v26_2 h3) ∧ (¬ ((10 : Int32) ≤ v26_3) →
 (hT h3 this = 8 ∧
 wp_X6_doesNeed h3 this p0 v26_3 (fun x6 =>
 (∀ J49 : Int32 → Prop, (∀ (t49_0 : Int32), (J26 (v26_2 ||| t49_0) (v26_3 + (1 : Int32))) → J49 t49_0) →
 ((x6 = 0 →
 J49 (0 : Int32)) ∧ (¬ (x6 = 0) →
 J49 ((1 : Int32) <<< (v26_3 &&& 31))))))))) → J26 v26_2 v26_3) →
 J26 (0 : Int32) (0 : Int32)))))) → J14 t14_0) →
 ((x1 = 0 →
 J14 (1 : Int32)) ∧ (¬ (x1 = 0) →
 J14 (0 : Int32))))))
set_option maxHeartbeats 4000000 in
set_option maxRecDepth 100000 in
theorem m_X6_needs {E : Ev} {l : Launch} (hl : l.stackTraces = false) {h : Hp} {this : Nat} {p0 : Int32} {post : Int32 → Hp → Prop} (hw : wp_X6_needs h this p0 post) : MT E l yX6_needs cX6_needs 4 (some .int) 2 43 0 0 h [.ref this, .int p0] (poI post) (pxN) := by
  refine MT.of (by decide) hl (Nat.le_of_ble_eq_true rfl) (fun p e s m args below meth c C => ?_)
  unfold wp_X6_needs at hw
  have C : CX E p l s m args meth c cX6_needs 4 "TaktLineModel" "needs" (some .int) [] := C
  show WS E p l e (rmOf 2 0 0 43) s m args below meth c 4 (vx_MQ below (qcP E (poI post)) (xcP E (pxN)) args s 0 0 (bsA E)) h 0 0 0 [(0, .ref this), (1, .int p0)] []
  refine r_aload_n C dX6_needs_0 rfl rfl ?_
  refine r_aload_n C dX6_needs_1 rfl rfl ?_
  refine r_iload_n C dX6_needs_2 rfl rfl ?_
  obtain ⟨g2, hw⟩ := hw
  refine r_callV (As := [.int p0]) (st := [.ref this]) C (m_X6_isCar hl hw) v_X6_isCar w_943 K8 g2 (by decide) ob8 rfl ⟨leb rfl, leb rfl⟩ ⟨leb rfl, leb rfl⟩ rfl (leb rfl) dX6_needs_3 (fun _ _ z => z.elim) (kpI (K := fun hK sK => WS E p l e (rmOf 2 0 0 43) s m args below meth c 4 (vx_MQ below (qcP E (poI post)) (xcP E (pxN)) args s 0 0 (bsA E)) hK (0 + 0) (0 + 0) (3 + 3) [(0, .ref this), (1, .int p0)] sK) (fun x1 hv => ?_))
  replace hw := hv
  clear hv
  replace hw := hw (fun (t14_0 : Int32) => WS E p l e (rmOf 2 0 0 43) s m args below meth c 4 (vx_MQ below (qcP E (poI post)) (xcP E (pxN)) args s 0 0 (bsA E)) h 0 0 14 [(0, .ref this), (1, .int p0)] [.int t14_0, .ref this]) (by
    intro t14_0 hv
    replace hw := hv
    clear hv
    refine r_callV (As := [.int t14_0]) (st := []) C (m_X6_goesWell hl hw) v_X6_goesWell w_919 K8 g2 (by decide) ob8 rfl ⟨leb rfl, leb rfl⟩ ⟨leb rfl, leb rfl⟩ rfl (leb rfl) dX6_needs_14 (fun _ _ z => z.elim) (kkI (K := fun hK sK => WS E p l e (rmOf 2 0 0 43) s m args below meth c 4 (vx_MQ below (qcP E (poI post)) (xcP E (pxN)) args s 0 0 (bsA E)) hK (0 + 0) (0 + 0) (14 + 3) [(0, .ref this), (1, .int p0)] sK) (fun x3 h3 hv => ?_))
    replace hw := hv
    clear hv
    refine r_if_ne C 22 dX6_needs_17 (by decide) (fun z4 => ?_) (fun z4 => ?_)
    · replace hw := hw.2 z4
      refine r_iconst (v := (0 : Int32)) C dX6_needs_22 (by decide) ?_
      refine r_istore_n C dX6_needs_23 rfl (by decide) [(0, .ref this), (1, .int p0), (2, .int (0 : Int32))] ⟨rfl, rfl, rfl, trivial⟩ ?_
      refine r_iconst (v := (0 : Int32)) C dX6_needs_24 (by decide) ?_
      refine r_istore_n C dX6_needs_25 rfl (by decide) [(0, .ref this), (1, .int p0), (2, .int (0 : Int32)), (3, .int (0 : Int32))] ⟨rfl, rfl, rfl, rfl, trivial⟩ ?_
      replace hw := hw (fun (v26_2 : Int32) (v26_3 : Int32) => WS E p l e (rmOf 2 0 0 43) s m args below meth c 4 (vx_MQ below (qcP E (poI post)) (xcP E (pxN)) args s 0 0 (bsA E)) h3 0 0 26 [(0, .ref this), (1, .int p0), (2, .int v26_2), (3, .int v26_3)] []) (by
        intro v26_2 v26_3 hv
        replace hw := hv
        clear hv
        refine r_iload_n C dX6_needs_26 rfl rfl ?_
        refine r_bipush (v := (10 : Int32)) C dX6_needs_27 (by decide) ?_
        refine r_icmp_ge C 57 dX6_needs_29 (by decide) (fun z5 => ?_) (fun z5 => ?_)
        · replace hw := hw.1 z5
          refine r_iload_n C dX6_needs_57 rfl rfl ?_
          exact r_iret C dX6_needs_58 (by decide) (by decide) ⟨_, rfl, hw⟩
        · replace hw := hw.2 z5
          refine r_iload_n C dX6_needs_32 rfl rfl ?_
          refine r_aload_n C dX6_needs_33 rfl rfl ?_
          refine r_iload_n C dX6_needs_34 rfl rfl ?_
          refine r_iload_n C dX6_needs_35 rfl rfl ?_
          obtain ⟨g7, hw⟩ := hw
          refine r_callV (As := [.int p0, .int v26_3]) (st := [.int v26_2]) C (m_X6_doesNeed hl hw) v_X6_doesNeed w_947 K8 g7 (by decide) ob8 rfl ⟨leb rfl, leb rfl⟩ ⟨leb rfl, leb rfl⟩ rfl (leb rfl) dX6_needs_36 (fun _ _ z => z.elim) (kpI (K := fun hK sK => WS E p l e (rmOf 2 0 0 43) s m args below meth c 4 (vx_MQ below (qcP E (poI post)) (xcP E (pxN)) args s 0 0 (bsA E)) hK (0 + 0) (0 + 0) (36 + 3) [(0, .ref this), (1, .int p0), (2, .int v26_2), (3, .int v26_3)] sK) (fun x6 hv => ?_))
          replace hw := hv
          clear hv
          replace hw := hw (fun (t49_0 : Int32) => WS E p l e (rmOf 2 0 0 43) s m args below meth c 4 (vx_MQ below (qcP E (poI post)) (xcP E (pxN)) args s 0 0 (bsA E)) h3 0 0 49 [(0, .ref this), (1, .int p0), (3, .int v26_3)] [.int t49_0, .int v26_2]) (by
            intro t49_0 hv
            replace hw := hv
            clear hv
            refine r_ior C dX6_needs_49 ?_
            refine r_istore_n C dX6_needs_50 rfl (by decide) [(0, .ref this), (1, .int p0), (2, .int (v26_2 ||| t49_0)), (3, .int v26_3)] ⟨rfl, rfl, rfl, rfl, trivial⟩ ?_
            refine r_iinc C (v26_3 + (1 : Int32)) dX6_needs_51 rfl rfl (by decide) [(0, .ref this), (1, .int p0), (2, .int (v26_2 ||| t49_0)), (3, .int (v26_3 + (1 : Int32)))] ⟨rfl, rfl, rfl, rfl, trivial⟩ ?_
            refine r_goto C 26 dX6_needs_54 (by decide) ?_
            exact (r_subk hw ⟨rfl, rfl, rfl, rfl, trivial⟩)
            )
          refine r_if_eq C 48 dX6_needs_39 (by decide) (fun z8 => ?_) (fun z8 => ?_)
          · replace hw := hw.1 z8
            refine r_iconst (v := (0 : Int32)) C dX6_needs_48 (by decide) ?_
            exact (r_subk hw ⟨rfl, rfl, rfl, trivial⟩)
          · replace hw := hw.2 z8
            refine r_iconst (v := (1 : Int32)) C dX6_needs_42 (by decide) ?_
            refine r_iload_n C dX6_needs_43 rfl rfl ?_
            refine r_ishl C dX6_needs_44 ?_
            refine r_goto C 49 dX6_needs_45 (by decide) ?_
            exact (r_subk hw ⟨rfl, rfl, rfl, trivial⟩)
        )
      exact (r_subk hw ⟨rfl, rfl, rfl, rfl, trivial⟩)
    · replace hw := hw.1 z4
      refine r_iconst (v := (0 : Int32)) C dX6_needs_20 (by decide) ?_
      exact r_iret C dX6_needs_21 (by decide) (by decide) ⟨_, rfl, hw⟩
    )
  refine r_if_eq C 13 dX6_needs_6 (by decide) (fun z9 => ?_) (fun z9 => ?_)
  · replace hw := hw.1 z9
    refine r_iconst (v := (1 : Int32)) C dX6_needs_13 (by decide) ?_
    exact (r_subk hw ⟨rfl, rfl, trivial⟩)
  · replace hw := hw.2 z9
    refine r_iconst (v := (0 : Int32)) C dX6_needs_9 (by decide) ?_
    refine r_goto C 14 dX6_needs_10 (by decide) ?_
    exact (r_subk hw ⟨rfl, rfl, trivial⟩)
theorem v_X6_needs : MV yX6_needs cX6_needs 4 (some .int) 1 := ⟨w_942, w_940, w_941, w_60, ⟨by decide +kernel, by decide +kernel, by decide +kernel⟩⟩

def wp_X6_lacked (h : Hp) (this : Nat) (p0 : Int32) (post : Int32 → Prop) : Prop :=
(∀ J4 : Int32 → Int32 → Prop, (∀ (v4_2 : Int32) (v4_3 : Int32), (((10 : Int32) ≤ v4_3 →
 post v4_2) ∧ (¬ ((10 : Int32) ≤ v4_3) →
 (hT h this = 8 ∧
 wp_X6_doesLack h this p0 v4_3 (fun x2 =>
 (∀ J27 : Int32 → Prop, (∀ (t27_0 : Int32), (J4 (v4_2 ||| t27_0) (v4_3 + (1 : Int32))) → J27 t27_0) →
 ((x2 = 0 →
 J27 (0 : Int32)) ∧ (¬ (x2 = 0) →
 J27 ((1 : Int32) <<< (v4_3 &&& 31))))))))) → J4 v4_2 v4_3) →
 J4 (0 : Int32) (0 : Int32))
set_option maxHeartbeats 4000000 in
set_option maxRecDepth 100000 in
theorem m_X6_lacked {E : Ev} {l : Launch} (hl : l.stackTraces = false) {h : Hp} {this : Nat} {p0 : Int32} {post : Int32 → Prop} (hw : wp_X6_lacked h this p0 post) : MT E l yX6_lacked cX6_lacked 4 (some .int) 2 45 0 0 h [.ref this, .int p0] (puI h post) (pxN) := by
  refine MT.of (by decide) hl (Nat.le_of_ble_eq_true rfl) (fun p e s m args below meth c C => ?_)
  unfold wp_X6_lacked at hw
  have C : CX E p l s m args meth c cX6_lacked 4 "TaktLineModel" "lacked" (some .int) [] := C
  show WS E p l e (rmOf 2 0 0 45) s m args below meth c 4 (vx_MQ below (qcP E (puI h post)) (xcP E (pxN)) args s 0 0 (bsA E)) h 0 0 0 [(0, .ref this), (1, .int p0)] []
  refine r_iconst (v := (0 : Int32)) C dX6_lacked_0 (by decide) ?_
  refine r_istore_n C dX6_lacked_1 rfl (by decide) [(0, .ref this), (1, .int p0), (2, .int (0 : Int32))] ⟨rfl, rfl, rfl, trivial⟩ ?_
  refine r_iconst (v := (0 : Int32)) C dX6_lacked_2 (by decide) ?_
  refine r_istore_n C dX6_lacked_3 rfl (by decide) [(0, .ref this), (1, .int p0), (2, .int (0 : Int32)), (3, .int (0 : Int32))] ⟨rfl, rfl, rfl, rfl, trivial⟩ ?_
  replace hw := hw (fun (v4_2 : Int32) (v4_3 : Int32) => WS E p l e (rmOf 2 0 0 45) s m args below meth c 4 (vx_MQ below (qcP E (puI h post)) (xcP E (pxN)) args s 0 0 (bsA E)) h 0 0 4 [(0, .ref this), (1, .int p0), (2, .int v4_2), (3, .int v4_3)] []) (by
    intro v4_2 v4_3 hv
    replace hw := hv
    clear hv
    refine r_iload_n C dX6_lacked_4 rfl rfl ?_
    refine r_bipush (v := (10 : Int32)) C dX6_lacked_5 (by decide) ?_
    refine r_icmp_ge C 35 dX6_lacked_7 (by decide) (fun z1 => ?_) (fun z1 => ?_)
    · replace hw := hw.1 z1
      refine r_iload_n C dX6_lacked_35 rfl rfl ?_
      exact r_iret C dX6_lacked_36 (by decide) (by decide) ⟨_, rfl, hw, rfl⟩
    · replace hw := hw.2 z1
      refine r_iload_n C dX6_lacked_10 rfl rfl ?_
      refine r_aload_n C dX6_lacked_11 rfl rfl ?_
      refine r_iload_n C dX6_lacked_12 rfl rfl ?_
      refine r_iload_n C dX6_lacked_13 rfl rfl ?_
      obtain ⟨g3, hw⟩ := hw
      refine r_callV (As := [.int p0, .int v4_3]) (st := [.int v4_2]) C (m_X6_doesLack hl hw) v_X6_doesLack w_959 K8 g3 (by decide) ob8 rfl ⟨leb rfl, leb rfl⟩ ⟨leb rfl, leb rfl⟩ rfl (leb rfl) dX6_lacked_14 (fun _ _ z => z.elim) (kpI (K := fun hK sK => WS E p l e (rmOf 2 0 0 45) s m args below meth c 4 (vx_MQ below (qcP E (puI h post)) (xcP E (pxN)) args s 0 0 (bsA E)) hK (0 + 0) (0 + 0) (14 + 3) [(0, .ref this), (1, .int p0), (2, .int v4_2), (3, .int v4_3)] sK) (fun x2 hv => ?_))
      replace hw := hv
      clear hv
      replace hw := hw (fun (t27_0 : Int32) => WS E p l e (rmOf 2 0 0 45) s m args below meth c 4 (vx_MQ below (qcP E (puI h post)) (xcP E (pxN)) args s 0 0 (bsA E)) h 0 0 27 [(0, .ref this), (1, .int p0), (3, .int v4_3)] [.int t27_0, .int v4_2]) (by
        intro t27_0 hv
        replace hw := hv
        clear hv
        refine r_ior C dX6_lacked_27 ?_
        refine r_istore_n C dX6_lacked_28 rfl (by decide) [(0, .ref this), (1, .int p0), (2, .int (v4_2 ||| t27_0)), (3, .int v4_3)] ⟨rfl, rfl, rfl, rfl, trivial⟩ ?_
        refine r_iinc C (v4_3 + (1 : Int32)) dX6_lacked_29 rfl rfl (by decide) [(0, .ref this), (1, .int p0), (2, .int (v4_2 ||| t27_0)), (3, .int (v4_3 + (1 : Int32)))] ⟨rfl, rfl, rfl, rfl, trivial⟩ ?_
        refine r_goto C 4 dX6_lacked_32 (by decide) ?_
        exact (r_subk hw ⟨rfl, rfl, rfl, rfl, trivial⟩)
        )
      refine r_if_eq C 26 dX6_lacked_17 (by decide) (fun z4 => ?_) (fun z4 => ?_)
      · replace hw := hw.1 z4
        refine r_iconst (v := (0 : Int32)) C dX6_lacked_26 (by decide) ?_
        exact (r_subk hw ⟨rfl, rfl, rfl, trivial⟩)
      · replace hw := hw.2 z4
        refine r_iconst (v := (1 : Int32)) C dX6_lacked_20 (by decide) ?_
        refine r_iload_n C dX6_lacked_21 rfl rfl ?_
        refine r_ishl C dX6_lacked_22 ?_
        refine r_goto C 27 dX6_lacked_23 (by decide) ?_
        exact (r_subk hw ⟨rfl, rfl, rfl, trivial⟩)
    )
  exact (r_subk hw ⟨rfl, rfl, rfl, rfl, trivial⟩)
theorem v_X6_lacked : MV yX6_lacked cX6_lacked 4 (some .int) 1 := ⟨w_958, w_957, w_40, w_60, ⟨by decide +kernel, by decide +kernel, by decide +kernel⟩⟩

def wp_X6_lacks (h : Hp) (this : Nat) (p0 : Int32) (post : Int32 → Hp → Prop) : Prop :=
(hT h this = 8 ∧
 wp_X6_isCar h this p0 (fun x1 =>
 (∀ J14 : Int32 → Prop, (∀ (t14_0 : Int32), (wp_X6_goesWell h this t14_0 (fun x3 h3 =>
 (∀ J29 : Int32 → Prop, (∀ (t29_0 : Int32), (post t29_0 h3) → J29 t29_0) →
 ((x3 = 0 →
 J29 (0 : Int32)) ∧ (¬ (x3 = 0) →
 (hT h3 this = 8 ∧
 wp_X6_lacked h3 this p0 (fun x5 =>
 J29 x5))))))) → J14 t14_0) →
 ((x1 = 0 →
 J14 (1 : Int32)) ∧ (¬ (x1 = 0) →
 J14 (0 : Int32))))))
set_option maxHeartbeats 4000000 in
set_option maxRecDepth 100000 in
theorem m_X6_lacks {E : Ev} {l : Launch} (hl : l.stackTraces = false) {h : Hp} {this : Nat} {p0 : Int32} {post : Int32 → Hp → Prop} (hw : wp_X6_lacks h this p0 post) : MT E l yX6_lacks cX6_lacks 2 (some .int) 3 68 0 0 h [.ref this, .int p0] (poI post) (pxN) := by
  refine MT.of (by decide) hl (Nat.le_of_ble_eq_true rfl) (fun p e s m args below meth c C => ?_)
  unfold wp_X6_lacks at hw
  have C : CX E p l s m args meth c cX6_lacks 2 "TaktLineModel" "lacks" (some .int) [] := C
  show WS E p l e (rmOf 3 0 0 68) s m args below meth c 2 (vx_MQ below (qcP E (poI post)) (xcP E (pxN)) args s 0 0 (bsA E)) h 0 0 0 [(0, .ref this), (1, .int p0)] []
  refine r_aload_n C dX6_lacks_0 rfl rfl ?_
  refine r_aload_n C dX6_lacks_1 rfl rfl ?_
  refine r_iload_n C dX6_lacks_2 rfl rfl ?_
  obtain ⟨g2, hw⟩ := hw
  refine r_callV (As := [.int p0]) (st := [.ref this]) C (m_X6_isCar hl hw) v_X6_isCar w_943 K8 g2 (by decide) ob8 rfl ⟨leb rfl, leb rfl⟩ ⟨leb rfl, leb rfl⟩ rfl (leb rfl) dX6_lacks_3 (fun _ _ z => z.elim) (kpI (K := fun hK sK => WS E p l e (rmOf 3 0 0 68) s m args below meth c 2 (vx_MQ below (qcP E (poI post)) (xcP E (pxN)) args s 0 0 (bsA E)) hK (0 + 0) (0 + 0) (3 + 3) [(0, .ref this), (1, .int p0)] sK) (fun x1 hv => ?_))
  replace hw := hv
  clear hv
  replace hw := hw (fun (t14_0 : Int32) => WS E p l e (rmOf 3 0 0 68) s m args below meth c 2 (vx_MQ below (qcP E (poI post)) (xcP E (pxN)) args s 0 0 (bsA E)) h 0 0 14 [(0, .ref this), (1, .int p0)] [.int t14_0, .ref this]) (by
    intro t14_0 hv
    replace hw := hv
    clear hv
    refine r_callV (As := [.int t14_0]) (st := []) C (m_X6_goesWell hl hw) v_X6_goesWell w_919 K8 g2 (by decide) ob8 rfl ⟨leb rfl, leb rfl⟩ ⟨leb rfl, leb rfl⟩ rfl (leb rfl) dX6_lacks_14 (fun _ _ z => z.elim) (kkI (K := fun hK sK => WS E p l e (rmOf 3 0 0 68) s m args below meth c 2 (vx_MQ below (qcP E (poI post)) (xcP E (pxN)) args s 0 0 (bsA E)) hK (0 + 0) (0 + 0) (14 + 3) [(0, .ref this), (1, .int p0)] sK) (fun x3 h3 hv => ?_))
    replace hw := hv
    clear hv
    replace hw := hw (fun (t29_0 : Int32) => WS E p l e (rmOf 3 0 0 68) s m args below meth c 2 (vx_MQ below (qcP E (poI post)) (xcP E (pxN)) args s 0 0 (bsA E)) h3 0 0 29 [] [.int t29_0]) (by
      intro t29_0 hv
      replace hw := hv
      clear hv
      exact r_iret C dX6_lacks_29 (by decide) (by decide) ⟨_, rfl, hw⟩
      )
    refine r_if_eq C 28 dX6_lacks_17 (by decide) (fun z4 => ?_) (fun z4 => ?_)
    · replace hw := hw.1 z4
      refine r_iconst (v := (0 : Int32)) C dX6_lacks_28 (by decide) ?_
      exact (r_subk hw trivial)
    · replace hw := hw.2 z4
      refine r_aload_n C dX6_lacks_20 rfl rfl ?_
      refine r_iload_n C dX6_lacks_21 rfl rfl ?_
      obtain ⟨g6, hw⟩ := hw
      refine r_callV (As := [.int p0]) (st := []) C (m_X6_lacked hl hw) v_X6_lacked w_955 K8 g6 (by decide) ob8 rfl ⟨leb rfl, leb rfl⟩ ⟨leb rfl, leb rfl⟩ rfl (leb rfl) dX6_lacks_22 (fun _ _ z => z.elim) (kpI (K := fun hK sK => WS E p l e (rmOf 3 0 0 68) s m args below meth c 2 (vx_MQ below (qcP E (poI post)) (xcP E (pxN)) args s 0 0 (bsA E)) hK (0 + 0) (0 + 0) (22 + 3) [(0, .ref this), (1, .int p0)] sK) (fun x5 hv => ?_))
      replace hw := hv
      clear hv
      refine r_goto C 29 dX6_lacks_25 (by decide) ?_
      exact (r_subk hw trivial)
    )
  refine r_if_eq C 13 dX6_lacks_6 (by decide) (fun z7 => ?_) (fun z7 => ?_)
  · replace hw := hw.1 z7
    refine r_iconst (v := (1 : Int32)) C dX6_lacks_13 (by decide) ?_
    exact (r_subk hw ⟨rfl, rfl, trivial⟩)
  · replace hw := hw.2 z7
    refine r_iconst (v := (0 : Int32)) C dX6_lacks_9 (by decide) ?_
    refine r_goto C 14 dX6_lacks_10 (by decide) ?_
    exact (r_subk hw ⟨rfl, rfl, trivial⟩)
theorem v_X6_lacks : MV yX6_lacks cX6_lacks 2 (some .int) 1 := ⟨w_954, w_952, w_953, w_60, ⟨by decide +kernel, by decide +kernel, by decide +kernel⟩⟩

def wp_X6_lotByPicks (h : Hp) (this : Nat) (p0 : Int32) (p1 : Int32) (post : Int32 → Hp → Prop) : Prop :=
(hT h this = 8 ∧
 wp_X6_isCar h this p0 (fun x1 =>
 (∀ J21 : Int32 → Prop, (∀ (t21_0 : Int32), (wp_X6_goesWell h this t21_0 (fun x3 h3 =>
 (∀ J44 : Int32 → Prop, (∀ (t44_0 : Int32), (post t44_0 h3) → J44 t44_0) →
 ((x3 = 0 →
 J44 (0 : Int32)) ∧ (¬ (x3 = 0) →
 (hT h3 this = 8 ∧
 (∃ a6 : Nat, hR h3 this 14 = some a6 ∧
 (hT h3 a6 = 20 ∧
 (∃ j8 : Nat, ((10 : Int32) * p0) + p1 = nI j8 ∧ j8 < 2147483648 ∧ j8 < hL h3 a6 ∧
 (∃ x9 : Int32, hI h3 a6 j8 = x9 ∧
 J44 (x9 - (1 : Int32)))))))))))) → J21 t21_0) →
 (∀ J20 : Prop, ((J21 (1 : Int32)) → J20) →
 ((x1 = 0 →
 J20) ∧ (¬ (x1 = 0) →
 wp_X6_isKind h p1 (fun x11 =>
 ((x11 = 0 →
 J20) ∧ (¬ (x11 = 0) →
 J21 (0 : Int32))))))))))
set_option maxHeartbeats 4000000 in
set_option maxRecDepth 100000 in
theorem m_X6_lotByPicks {E : Ev} {l : Launch} (hl : l.stackTraces = false) {h : Hp} {this : Nat} {p0 : Int32} {p1 : Int32} {post : Int32 → Hp → Prop} (hw : wp_X6_lotByPicks h this p0 p1 post) : MT E l yX6_lotByPicks cX6_lotByPicks 3 (some .int) 2 43 0 0 h [.ref this, .int p0, .int p1] (poI post) (pxN) := by
  refine MT.of (by decide) hl (Nat.le_of_ble_eq_true rfl) (fun p e s m args below meth c C => ?_)
  unfold wp_X6_lotByPicks at hw
  have C : CX E p l s m args meth c cX6_lotByPicks 3 "TaktLineModel" "lotByPicks" (some .int) [] := C
  show WS E p l e (rmOf 2 0 0 43) s m args below meth c 3 (vx_MQ below (qcP E (poI post)) (xcP E (pxN)) args s 0 0 (bsA E)) h 0 0 0 [(0, .ref this), (1, .int p0), (2, .int p1)] []
  refine r_aload_n C dX6_lotByPicks_0 rfl rfl ?_
  refine r_aload_n C dX6_lotByPicks_1 rfl rfl ?_
  refine r_iload_n C dX6_lotByPicks_2 rfl rfl ?_
  obtain ⟨g2, hw⟩ := hw
  refine r_callV (As := [.int p0]) (st := [.ref this]) C (m_X6_isCar hl hw) v_X6_isCar w_943 K8 g2 (by decide) ob8 rfl ⟨leb rfl, leb rfl⟩ ⟨leb rfl, leb rfl⟩ rfl (leb rfl) dX6_lotByPicks_3 (fun _ _ z => z.elim) (kpI (K := fun hK sK => WS E p l e (rmOf 2 0 0 43) s m args below meth c 3 (vx_MQ below (qcP E (poI post)) (xcP E (pxN)) args s 0 0 (bsA E)) hK (0 + 0) (0 + 0) (3 + 3) [(0, .ref this), (1, .int p0), (2, .int p1)] sK) (fun x1 hv => ?_))
  replace hw := hv
  clear hv
  replace hw := hw (fun (t21_0 : Int32) => WS E p l e (rmOf 2 0 0 43) s m args below meth c 3 (vx_MQ below (qcP E (poI post)) (xcP E (pxN)) args s 0 0 (bsA E)) h 0 0 21 [(0, .ref this), (1, .int p0), (2, .int p1)] [.int t21_0, .ref this]) (by
    intro t21_0 hv
    replace hw := hv
    clear hv
    refine r_callV (As := [.int t21_0]) (st := []) C (m_X6_goesWell hl hw) v_X6_goesWell w_919 K8 g2 (by decide) ob8 rfl ⟨leb rfl, leb rfl⟩ ⟨leb rfl, leb rfl⟩ rfl (leb rfl) dX6_lotByPicks_21 (fun _ _ z => z.elim) (kkI (K := fun hK sK => WS E p l e (rmOf 2 0 0 43) s m args below meth c 3 (vx_MQ below (qcP E (poI post)) (xcP E (pxN)) args s 0 0 (bsA E)) hK (0 + 0) (0 + 0) (21 + 3) [(0, .ref this), (1, .int p0), (2, .int p1)] sK) (fun x3 h3 hv => ?_))
    replace hw := hv
    clear hv
    replace hw := hw (fun (t44_0 : Int32) => WS E p l e (rmOf 2 0 0 43) s m args below meth c 3 (vx_MQ below (qcP E (poI post)) (xcP E (pxN)) args s 0 0 (bsA E)) h3 0 0 44 [] [.int t44_0]) (by
      intro t44_0 hv
      replace hw := hv
      clear hv
      exact r_iret C dX6_lotByPicks_44 (by decide) (by decide) ⟨_, rfl, hw⟩
      )
    refine r_if_eq C 43 dX6_lotByPicks_24 (by decide) (fun z4 => ?_) (fun z4 => ?_)
    · replace hw := hw.1 z4
      refine r_iconst (v := (0 : Int32)) C dX6_lotByPicks_43 (by decide) ?_
      exact (r_subk hw trivial)
    · replace hw := hw.2 z4
      refine r_aload_n C dX6_lotByPicks_27 rfl rfl ?_
      obtain ⟨g5, hw⟩ := hw
      obtain ⟨a6, e6, hw⟩ := hw
      refine r_getA C K8 ob8 g5 (by decide) 14 (by decide) w_827 (fun _ z => z) e6 rfl dX6_lotByPicks_28 ?_
      refine r_bipush (v := (10 : Int32)) C dX6_lotByPicks_31 (by decide) ?_
      refine r_iload_n C dX6_lotByPicks_33 rfl rfl ?_
      refine r_imul C dX6_lotByPicks_34 ?_
      refine r_iload_n C dX6_lotByPicks_35 rfl rfl ?_
      refine r_iadd C dX6_lotByPicks_36 ?_
      obtain ⟨g7, hw⟩ := hw
      obtain ⟨j8, f8, l8, k8, hw⟩ := hw
      obtain ⟨x9, e9, hw⟩ := hw
      refine a_I C g7 f8 l8 k8 e9 dX6_lotByPicks_37 ?_
      refine r_iconst (v := (1 : Int32)) C dX6_lotByPicks_38 (by decide) ?_
      refine r_isub C dX6_lotByPicks_39 ?_
      refine r_goto C 44 dX6_lotByPicks_40 (by decide) ?_
      exact (r_subk hw trivial)
    )
  replace hw := hw (WS E p l e (rmOf 2 0 0 43) s m args below meth c 3 (vx_MQ below (qcP E (poI post)) (xcP E (pxN)) args s 0 0 (bsA E)) h 0 0 20 [(0, .ref this), (1, .int p0), (2, .int p1)] [.ref this]) (by
    intro hv
    replace hw := hv
    clear hv
    refine r_iconst (v := (1 : Int32)) C dX6_lotByPicks_20 (by decide) ?_
    exact (r_subk hw ⟨rfl, rfl, rfl, trivial⟩)
    )
  refine r_if_eq C 20 dX6_lotByPicks_6 (by decide) (fun z10 => ?_) (fun z10 => ?_)
  · replace hw := hw.1 z10
    exact (r_subk hw ⟨rfl, rfl, rfl, trivial⟩)
  · replace hw := hw.2 z10
    refine r_iload_n C dX6_lotByPicks_9 rfl rfl ?_
    refine r_callS (As := [.int p1]) (st := [.ref this]) C (m_X6_isKind hl hw) v_X6_isKind w_916 rfl ⟨leb rfl, leb rfl⟩ ⟨leb rfl, leb rfl⟩ rfl (leb rfl) dX6_lotByPicks_10 (fun _ _ z => z.elim) (kpI (K := fun hK sK => WS E p l e (rmOf 2 0 0 43) s m args below meth c 3 (vx_MQ below (qcP E (poI post)) (xcP E (pxN)) args s 0 0 (bsA E)) hK (0 + 0) (0 + 0) (10 + 3) [(0, .ref this), (1, .int p0), (2, .int p1)] sK) (fun x11 hv => ?_))
    replace hw := hv
    clear hv
    refine r_if_eq C 20 dX6_lotByPicks_13 (by decide) (fun z12 => ?_) (fun z12 => ?_)
    · replace hw := hw.1 z12
      exact (r_subk hw ⟨rfl, rfl, rfl, trivial⟩)
    · replace hw := hw.2 z12
      refine r_iconst (v := (0 : Int32)) C dX6_lotByPicks_16 (by decide) ?_
      refine r_goto C 21 dX6_lotByPicks_17 (by decide) ?_
      exact (r_subk hw ⟨rfl, rfl, rfl, trivial⟩)
theorem v_X6_lotByPicks : MV yX6_lotByPicks cX6_lotByPicks 3 (some .int) 2 := ⟨w_970, w_968, w_969, w_60, ⟨by decide +kernel, by decide +kernel, by decide +kernel⟩⟩

def wp_X6_lotIn (h : Hp) (this : Nat) (p0 : Int32) (p1 : Int32) (post : Int32 → Hp → Prop) : Prop :=
(hT h this = 8 ∧
 wp_X6_lotByPicks h this p0 p1 (fun x1 h1 =>
 post x1 h1))
set_option maxHeartbeats 4000000 in
set_option maxRecDepth 100000 in
theorem m_X6_lotIn {E : Ev} {l : Launch} (hl : l.stackTraces = false) {h : Hp} {this : Nat} {p0 : Int32} {p1 : Int32} {post : Int32 → Hp → Prop} (hw : wp_X6_lotIn h this p0 p1 post) : MT E l yX6_lotIn cX6_lotIn 3 (some .int) 3 65 0 0 h [.ref this, .int p0, .int p1] (poI post) (pxN) := by
  refine MT.of (by decide) hl (Nat.le_of_ble_eq_true rfl) (fun p e s m args below meth c C => ?_)
  unfold wp_X6_lotIn at hw
  have C : CX E p l s m args meth c cX6_lotIn 3 "TaktLineModel" "lotIn" (some .int) [] := C
  show WS E p l e (rmOf 3 0 0 65) s m args below meth c 3 (vx_MQ below (qcP E (poI post)) (xcP E (pxN)) args s 0 0 (bsA E)) h 0 0 0 [(0, .ref this), (1, .int p0), (2, .int p1)] []
  refine r_aload_n C dX6_lotIn_0 rfl rfl ?_
  refine r_iload_n C dX6_lotIn_1 rfl rfl ?_
  refine r_iload_n C dX6_lotIn_2 rfl rfl ?_
  obtain ⟨g2, hw⟩ := hw
  refine r_callV (As := [.int p0, .int p1]) (st := []) C (m_X6_lotByPicks hl hw) v_X6_lotByPicks w_967 K8 g2 (by decide) ob8 rfl ⟨leb rfl, leb rfl⟩ ⟨leb rfl, leb rfl⟩ rfl (leb rfl) dX6_lotIn_3 (fun _ _ z => z.elim) (kkI (K := fun hK sK => WS E p l e (rmOf 3 0 0 65) s m args below meth c 3 (vx_MQ below (qcP E (poI post)) (xcP E (pxN)) args s 0 0 (bsA E)) hK (0 + 0) (0 + 0) (3 + 3) [(0, .ref this), (1, .int p0), (2, .int p1)] sK) (fun x1 h1 hv => ?_))
  replace hw := hv
  clear hv
  exact r_iret C dX6_lotIn_6 (by decide) (by decide) ⟨_, rfl, hw⟩
theorem v_X6_lotIn : MV yX6_lotIn cX6_lotIn 3 (some .int) 2 := ⟨w_966, w_964, w_965, w_60, ⟨by decide +kernel, by decide +kernel, by decide +kernel⟩⟩

def wp_X6_scrapped (h : Hp) (this : Nat) (post : Int32 → Hp → Prop) : Prop :=
(hT h this = 8 ∧
 (∀ h2, h2 = sI h this 0 (0 : Int32) →
 (∃ x4 : Int32, hI h2 this 28 = x4 ∧
 post x4 h2)))
set_option maxHeartbeats 4000000 in
set_option maxRecDepth 100000 in
theorem m_X6_scrapped {E : Ev} {l : Launch} (hl : l.stackTraces = false) {h : Hp} {this : Nat} {post : Int32 → Hp → Prop} (hw : wp_X6_scrapped h this post) : MT E l yX6_scrapped cX6_scrapped 1 (some .int) 0 0 0 0 h [.ref this] (poI post) (pxN) := by
  refine MT.of (by decide) hl (Nat.le_of_ble_eq_true rfl) (fun p e s m args below meth c C => ?_)
  unfold wp_X6_scrapped at hw
  have C : CX E p l s m args meth c cX6_scrapped 1 "TaktLineModel" "scrapped" (some .int) [] := C
  show WS E p l e (rmOf 0 0 0 0) s m args below meth c 1 (vx_MQ below (qcP E (poI post)) (xcP E (pxN)) args s 0 0 (bsA E)) h 0 0 0 [(0, .ref this)] []
  refine r_aload_n C dX6_scrapped_0 rfl rfl ?_
  refine r_iconst (v := (0 : Int32)) C dX6_scrapped_1 (by decide) ?_
  obtain ⟨g1, hw⟩ := hw
  obtain ⟨h2, eh2⟩ : ∃ z, z = sI h this 0 (0 : Int32) := ⟨_, rfl⟩
  replace hw := hw h2 eh2
  refine p_I C K8 ob8 g1 (by decide) 0 (by decide) w_813 (fun _ z => z) rfl (by decide +kernel) (Nat.le_of_ble_eq_true rfl) rfl dX6_scrapped_2 eh2 ?_
  refine r_aload_n C dX6_scrapped_5 rfl rfl ?_
  have g3 : hT h2 this = 8 := by rw [eh2]; exact g1
  obtain ⟨x4, e4, hw⟩ := hw
  refine r_getI C K8 ob8 g3 (by decide) 28 (by decide) w_841 (fun _ z => z) e4 rfl dX6_scrapped_6 ?_
  exact r_iret C dX6_scrapped_9 (by decide) (by decide) ⟨_, rfl, hw⟩
theorem v_X6_scrapped : MV yX6_scrapped cX6_scrapped 1 (some .int) 0 := ⟨w_975, w_973, w_974, w_60, ⟨by decide +kernel, by decide +kernel, by decide +kernel⟩⟩

def wp_X6_layContents (h : Hp) (this : Nat) (p0 : Int32) (post : Hp → Prop) : Prop :=
(∀ J2 : Int32 → Hp → Prop, (∀ (v2_2 : Int32) (h2_ : Hp), (((10 : Int32) ≤ v2_2 →
 post h2_) ∧ (¬ ((10 : Int32) ≤ v2_2) →
 (hT h2_ this = 8 ∧
 (∃ a3 : Nat, hR h2_ this 14 = some a3 ∧
 (hT h2_ a3 = 20 ∧
 (∃ j5 : Nat, ((10 : Int32) * p0) + v2_2 = nI j5 ∧ j5 < 2147483648 ∧ j5 < hL h2_ a3 ∧
 (∃ x6 : Int32, hI h2_ a3 j5 = x6 ∧
 (∃ a7 : Nat, hR h2_ this 26 = some a7 ∧
 (∃ a8 : Nat, hR h2_ this 4 = some a8 ∧
 (hT h2_ a8 = 21 ∧
 (∃ j10 : Nat, v2_2 = nI j10 ∧ j10 < 2147483648 ∧ j10 < hL h2_ a8 ∧
 (∃ x11 : Int32, hI h2_ a8 j10 = x11 ∧
 (∀ J50 : Int32 → Prop, (∀ (t50_0 : Int32), (hT h2_ a7 = 20 ∧
 (∃ j13 : Nat, v2_2 = nI j13 ∧ j13 < 2147483648 ∧ j13 < hL h2_ a7 ∧
 (∀ h14, h14 = sI h2_ a7 j13 t50_0 →
 J2 (v2_2 + (1 : Int32)) h14))) → J50 t50_0) →
 (∀ J49 : Prop, ((J50 (0 : Int32)) → J49) →
 ((x11 = 0 →
 J49) ∧ (¬ (x11 = 0) →
 ((x6 ≤ 0 →
 J49) ∧ (¬ (x6 ≤ 0) →
 (∃ a17 : Nat, hR h2_ this 7 = some a17 ∧
 (hT h2_ a17 = 20 ∧
 (∃ j19 : Nat, x6 - (1 : Int32) = nI j19 ∧ j19 < 2147483648 ∧ j19 < hL h2_ a17 ∧
 (∃ x20 : Int32, hI h2_ a17 j19 = x20 ∧
 J50 x20)))))))))))))))))))))) → J2 v2_2 h2_) →
 J2 (0 : Int32) h)
set_option maxHeartbeats 4000000 in
set_option maxRecDepth 100000 in
theorem m_X6_layContents {E : Ev} {l : Launch} (hl : l.stackTraces = false) {h : Hp} {this : Nat} {p0 : Int32} {post : Hp → Prop} (hw : wp_X6_layContents h this p0 post) : MT E l yX6_layContents cX6_layContents 4 none 0 0 0 0 h [.ref this, .int p0] (poV post) (pxN) := by
  refine MT.of (by decide) hl (Nat.le_of_ble_eq_true rfl) (fun p e s m args below meth c C => ?_)
  unfold wp_X6_layContents at hw
  have C : CX E p l s m args meth c cX6_layContents 4 "TaktLineModel" "layContents" none [] := C
  show WS E p l e (rmOf 0 0 0 0) s m args below meth c 4 (vx_MQ below (qcP E (poV post)) (xcP E (pxN)) args s 0 0 (bsA E)) h 0 0 0 [(0, .ref this), (1, .int p0)] []
  refine r_iconst (v := (0 : Int32)) C dX6_layContents_0 (by decide) ?_
  refine r_istore_n C dX6_layContents_1 rfl (by decide) [(0, .ref this), (1, .int p0), (2, .int (0 : Int32))] ⟨rfl, rfl, rfl, trivial⟩ ?_
  replace hw := hw (fun (v2_2 : Int32) (h2_ : Hp) => WS E p l e (rmOf 0 0 0 0) s m args below meth c 4 (vx_MQ below (qcP E (poV post)) (xcP E (pxN)) args s 0 0 (bsA E)) h2_ 0 0 2 [(0, .ref this), (1, .int p0), (2, .int v2_2)] []) (by
    intro v2_2 h2_ hv
    replace hw := hv
    clear hv
    refine r_iload_n C dX6_layContents_2 rfl rfl ?_
    refine r_bipush (v := (10 : Int32)) C dX6_layContents_3 (by decide) ?_
    refine r_icmp_ge C 57 dX6_layContents_5 (by decide) (fun z1 => ?_) (fun z1 => ?_)
    · replace hw := hw.1 z1
      exact r_vret C dX6_layContents_57 (by decide) (by decide) ⟨rfl, hw⟩
    · replace hw := hw.2 z1
      refine r_aload_n C dX6_layContents_8 rfl rfl ?_
      obtain ⟨g2, hw⟩ := hw
      obtain ⟨a3, e3, hw⟩ := hw
      refine r_getA C K8 ob8 g2 (by decide) 14 (by decide) w_827 (fun _ z => z) e3 rfl dX6_layContents_9 ?_
      refine r_bipush (v := (10 : Int32)) C dX6_layContents_12 (by decide) ?_
      refine r_iload_n C dX6_layContents_14 rfl rfl ?_
      refine r_imul C dX6_layContents_15 ?_
      refine r_iload_n C dX6_layContents_16 rfl rfl ?_
      refine r_iadd C dX6_layContents_17 ?_
      obtain ⟨g4, hw⟩ := hw
      obtain ⟨j5, f5, l5, k5, hw⟩ := hw
      obtain ⟨x6, e6, hw⟩ := hw
      refine a_I C g4 f5 l5 k5 e6 dX6_layContents_18 ?_
      refine r_istore_n C dX6_layContents_19 rfl (by decide) [(0, .ref this), (1, .int p0), (2, .int v2_2), (3, .int x6)] ⟨rfl, rfl, rfl, rfl, trivial⟩ ?_
      refine r_aload_n C dX6_layContents_20 rfl rfl ?_
      obtain ⟨a7, e7, hw⟩ := hw
      refine r_getA C K8 ob8 g2 (by decide) 26 (by decide) w_839 (fun _ z => z) e7 rfl dX6_layContents_21 ?_
      refine r_iload_n C dX6_layContents_24 rfl rfl ?_
      refine r_aload_n C dX6_layContents_25 rfl rfl ?_
      obtain ⟨a8, e8, hw⟩ := hw
      refine r_getA C K8 ob8 g2 (by decide) 4 (by decide) w_817 (fun _ z => z) e8 rfl dX6_layContents_26 ?_
      refine r_iload_n C dX6_layContents_29 rfl rfl ?_
      obtain ⟨g9, hw⟩ := hw
      obtain ⟨j10, f10, l10, k10, hw⟩ := hw
      obtain ⟨x11, e11, hw⟩ := hw
      refine a_B C g9 f10 l10 k10 e11 dX6_layContents_30 ?_
      replace hw := hw (fun (t50_0 : Int32) => WS E p l e (rmOf 0 0 0 0) s m args below meth c 4 (vx_MQ below (qcP E (poV post)) (xcP E (pxN)) args s 0 0 (bsA E)) h2_ 0 0 50 [(0, .ref this), (1, .int p0), (2, .int v2_2)] [.int t50_0, .int v2_2, .ref a7]) (by
        intro t50_0 hv
        replace hw := hv
        clear hv
        obtain ⟨g12, hw⟩ := hw
        obtain ⟨j13, f13, l13, k13, hw⟩ := hw
        obtain ⟨h14, eh14⟩ : ∃ z, z = sI h2_ a7 j13 t50_0 := ⟨_, rfl⟩
        replace hw := hw h14 eh14
        refine s_I C g12 f13 l13 k13 dX6_layContents_50 eh14 ?_
        refine r_iinc C (v2_2 + (1 : Int32)) dX6_layContents_51 rfl rfl (by decide) [(0, .ref this), (1, .int p0), (2, .int (v2_2 + (1 : Int32)))] ⟨rfl, rfl, rfl, trivial⟩ ?_
        refine r_goto C 2 dX6_layContents_54 (by decide) ?_
        exact (r_subk hw ⟨rfl, rfl, rfl, trivial⟩)
        )
      replace hw := hw (WS E p l e (rmOf 0 0 0 0) s m args below meth c 4 (vx_MQ below (qcP E (poV post)) (xcP E (pxN)) args s 0 0 (bsA E)) h2_ 0 0 49 [(0, .ref this), (1, .int p0), (2, .int v2_2)] [.int v2_2, .ref a7]) (by
        intro hv
        replace hw := hv
        clear hv
        refine r_iconst (v := (0 : Int32)) C dX6_layContents_49 (by decide) ?_
        exact (r_subk hw ⟨rfl, rfl, rfl, trivial⟩)
        )
      refine r_if_eq C 49 dX6_layContents_31 (by decide) (fun z15 => ?_) (fun z15 => ?_)
      · replace hw := hw.1 z15
        exact (r_subk hw ⟨rfl, rfl, rfl, trivial⟩)
      · replace hw := hw.2 z15
        refine r_iload_n C dX6_layContents_34 rfl rfl ?_
        refine r_if_le C 49 dX6_layContents_35 (by decide) (fun z16 => ?_) (fun z16 => ?_)
        · replace hw := hw.1 z16
          exact (r_subk hw ⟨rfl, rfl, rfl, trivial⟩)
        · replace hw := hw.2 z16
          refine r_aload_n C dX6_layContents_38 rfl rfl ?_
          obtain ⟨a17, e17, hw⟩ := hw
          refine r_getA C K8 ob8 g2 (by decide) 7 (by decide) w_820 (fun _ z => z) e17 rfl dX6_layContents_39 ?_
          refine r_iload_n C dX6_layContents_42 rfl rfl ?_
          refine r_iconst (v := (1 : Int32)) C dX6_layContents_43 (by decide) ?_
          refine r_isub C dX6_layContents_44 ?_
          obtain ⟨g18, hw⟩ := hw
          obtain ⟨j19, f19, l19, k19, hw⟩ := hw
          obtain ⟨x20, e20, hw⟩ := hw
          refine a_I C g18 f19 l19 k19 e20 dX6_layContents_45 ?_
          refine r_goto C 50 dX6_layContents_46 (by decide) ?_
          exact (r_subk hw ⟨rfl, rfl, rfl, trivial⟩)
    )
  exact (r_subk hw ⟨rfl, rfl, rfl, trivial⟩)
theorem v_X6_layContents : MV yX6_layContents cX6_layContents 4 none 1 := ⟨w_983, w_982, w_42, w_60, ⟨by decide +kernel, by decide +kernel, by decide +kernel⟩⟩

def wp_X6_isOfContents (h : Hp) (this : Nat) (p0 : Int32) (post : Int32 → Prop) : Prop :=
(∀ J4 : Int32 → Int32 → Prop, (∀ (v4_2 : Int32) (v4_3 : Int32), (((10 : Int32) ≤ v4_3 →
 (b01 v4_2 ∧
 post v4_2)) ∧ (¬ ((10 : Int32) ≤ v4_3) →
 (∀ J39 : Int32 → Prop, (∀ (t39_0 : Int32), (J4 t39_0 (v4_3 + (1 : Int32))) → J39 t39_0) →
 (∀ J38 : Prop, ((J39 (0 : Int32)) → J38) →
 ((v4_2 = 0 →
 J38) ∧ (¬ (v4_2 = 0) →
 (hT h this = 8 ∧
 (∃ a5 : Nat, hR h this 24 = some a5 ∧
 (hT h a5 = 20 ∧
 (∃ j7 : Nat, ((10 : Int32) * p0) + v4_3 = nI j7 ∧ j7 < 2147483648 ∧ j7 < hL h a5 ∧
 (∃ x8 : Int32, hI h a5 j7 = x8 ∧
 (∃ a9 : Nat, hR h this 26 = some a9 ∧
 (hT h a9 = 20 ∧
 (∃ j11 : Nat, v4_3 = nI j11 ∧ j11 < 2147483648 ∧ j11 < hL h a9 ∧
 (∃ x12 : Int32, hI h a9 j11 = x12 ∧
 ((x8 = x12 →
 J39 (1 : Int32)) ∧ (¬ (x8 = x12) →
 J38))))))))))))))))) → J4 v4_2 v4_3) →
 J4 (1 : Int32) (0 : Int32))
set_option maxHeartbeats 4000000 in
set_option maxRecDepth 100000 in
theorem m_X6_isOfContents {E : Ev} {l : Launch} (hl : l.stackTraces = false) {h : Hp} {this : Nat} {p0 : Int32} {post : Int32 → Prop} (hw : wp_X6_isOfContents h this p0 post) : MT E l yX6_isOfContents cX6_isOfContents 4 (some .boolean) 0 0 0 0 h [.ref this, .int p0] (puI h post) (pxN) := by
  refine MT.of (by decide) hl (Nat.le_of_ble_eq_true rfl) (fun p e s m args below meth c C => ?_)
  unfold wp_X6_isOfContents at hw
  have C : CX E p l s m args meth c cX6_isOfContents 4 "TaktLineModel" "isOfContents" (some .boolean) [] := C
  show WS E p l e (rmOf 0 0 0 0) s m args below meth c 4 (vx_MQ below (qcP E (puI h post)) (xcP E (pxN)) args s 0 0 (bsA E)) h 0 0 0 [(0, .ref this), (1, .int p0)] []
  refine r_iconst (v := (1 : Int32)) C dX6_isOfContents_0 (by decide) ?_
  refine r_istore_n C dX6_isOfContents_1 rfl (by decide) [(0, .ref this), (1, .int p0), (2, .int (1 : Int32))] ⟨rfl, rfl, rfl, trivial⟩ ?_
  refine r_iconst (v := (0 : Int32)) C dX6_isOfContents_2 (by decide) ?_
  refine r_istore_n C dX6_isOfContents_3 rfl (by decide) [(0, .ref this), (1, .int p0), (2, .int (1 : Int32)), (3, .int (0 : Int32))] ⟨rfl, rfl, rfl, rfl, trivial⟩ ?_
  replace hw := hw (fun (v4_2 : Int32) (v4_3 : Int32) => WS E p l e (rmOf 0 0 0 0) s m args below meth c 4 (vx_MQ below (qcP E (puI h post)) (xcP E (pxN)) args s 0 0 (bsA E)) h 0 0 4 [(0, .ref this), (1, .int p0), (2, .int v4_2), (3, .int v4_3)] []) (by
    intro v4_2 v4_3 hv
    replace hw := hv
    clear hv
    refine r_iload_n C dX6_isOfContents_4 rfl rfl ?_
    refine r_bipush (v := (10 : Int32)) C dX6_isOfContents_5 (by decide) ?_
    refine r_icmp_ge C 46 dX6_isOfContents_7 (by decide) (fun z1 => ?_) (fun z1 => ?_)
    · replace hw := hw.1 z1
      refine r_iload_n C dX6_isOfContents_46 rfl rfl ?_
      obtain ⟨y2, hw⟩ := hw
      exact r_zret C y2 dX6_isOfContents_47 (by decide) (by decide) ⟨_, rfl, hw, rfl⟩
    · replace hw := hw.2 z1
      refine r_iload_n C dX6_isOfContents_10 rfl rfl ?_
      replace hw := hw (fun (t39_0 : Int32) => WS E p l e (rmOf 0 0 0 0) s m args below meth c 4 (vx_MQ below (qcP E (puI h post)) (xcP E (pxN)) args s 0 0 (bsA E)) h 0 0 39 [(0, .ref this), (1, .int p0), (3, .int v4_3)] [.int t39_0]) (by
        intro t39_0 hv
        replace hw := hv
        clear hv
        refine r_istore_n C dX6_isOfContents_39 rfl (by decide) [(0, .ref this), (1, .int p0), (2, .int t39_0), (3, .int v4_3)] ⟨rfl, rfl, rfl, rfl, trivial⟩ ?_
        refine r_iinc C (v4_3 + (1 : Int32)) dX6_isOfContents_40 rfl rfl (by decide) [(0, .ref this), (1, .int p0), (2, .int t39_0), (3, .int (v4_3 + (1 : Int32)))] ⟨rfl, rfl, rfl, rfl, trivial⟩ ?_
        refine r_goto C 4 dX6_isOfContents_43 (by decide) ?_
        exact (r_subk hw ⟨rfl, rfl, rfl, rfl, trivial⟩)
        )
      replace hw := hw (WS E p l e (rmOf 0 0 0 0) s m args below meth c 4 (vx_MQ below (qcP E (puI h post)) (xcP E (pxN)) args s 0 0 (bsA E)) h 0 0 38 [(0, .ref this), (1, .int p0), (3, .int v4_3)] []) (by
        intro hv
        replace hw := hv
        clear hv
        refine r_iconst (v := (0 : Int32)) C dX6_isOfContents_38 (by decide) ?_
        exact (r_subk hw ⟨rfl, rfl, rfl, trivial⟩)
        )
      refine r_if_eq C 38 dX6_isOfContents_11 (by decide) (fun z3 => ?_) (fun z3 => ?_)
      · replace hw := hw.1 z3
        exact (r_subk hw ⟨rfl, rfl, rfl, trivial⟩)
      · replace hw := hw.2 z3
        refine r_aload_n C dX6_isOfContents_14 rfl rfl ?_
        obtain ⟨g4, hw⟩ := hw
        obtain ⟨a5, e5, hw⟩ := hw
        refine r_getA C K8 ob8 g4 (by decide) 24 (by decide) w_837 (fun _ z => z) e5 rfl dX6_isOfContents_15 ?_
        refine r_bipush (v := (10 : Int32)) C dX6_isOfContents_18 (by decide) ?_
        refine r_iload_n C dX6_isOfContents_20 rfl rfl ?_
        refine r_imul C dX6_isOfContents_21 ?_
        refine r_iload_n C dX6_isOfContents_22 rfl rfl ?_
        refine r_iadd C dX6_isOfContents_23 ?_
        obtain ⟨g6, hw⟩ := hw
        obtain ⟨j7, f7, l7, k7, hw⟩ := hw
        obtain ⟨x8, e8, hw⟩ := hw
        refine a_I C g6 f7 l7 k7 e8 dX6_isOfContents_24 ?_
        refine r_aload_n C dX6_isOfContents_25 rfl rfl ?_
        obtain ⟨a9, e9, hw⟩ := hw
        refine r_getA C K8 ob8 g4 (by decide) 26 (by decide) w_839 (fun _ z => z) e9 rfl dX6_isOfContents_26 ?_
        refine r_iload_n C dX6_isOfContents_29 rfl rfl ?_
        obtain ⟨g10, hw⟩ := hw
        obtain ⟨j11, f11, l11, k11, hw⟩ := hw
        obtain ⟨x12, e12, hw⟩ := hw
        refine a_I C g10 f11 l11 k11 e12 dX6_isOfContents_30 ?_
        refine r_icmp_ne C 38 dX6_isOfContents_31 (by decide) (fun z13 => ?_) (fun z13 => ?_)
        · replace hw := hw.2 z13
          exact (r_subk hw ⟨rfl, rfl, rfl, trivial⟩)
        · replace hw := hw.1 z13
          refine r_iconst (v := (1 : Int32)) C dX6_isOfContents_34 (by decide) ?_
          refine r_goto C 39 dX6_isOfContents_35 (by decide) ?_
          exact (r_subk hw ⟨rfl, rfl, rfl, trivial⟩)
    )
  exact (r_subk hw ⟨rfl, rfl, rfl, rfl, trivial⟩)
theorem v_X6_isOfContents : MV yX6_isOfContents cX6_isOfContents 4 (some .boolean) 1 := ⟨w_987, w_986, w_43, w_60, ⟨by decide +kernel, by decide +kernel, by decide +kernel⟩⟩

def wp_X6_fits (h : Hp) (this : Nat) (p0 : Int32) (post : Int32 → Hp → Prop) : Prop :=
(hT h this = 8 ∧
 (∃ a2 : Nat, hR h this 15 = some a2 ∧
 (hT h a2 = 20 ∧
 (∃ j4 : Nat, p0 = nI j4 ∧ j4 < 2147483648 ∧ j4 < hL h a2 ∧
 (∃ x5 : Int32, hI h a2 j4 = x5 ∧
 (∀ J14 : Int32 → Prop, (∀ (t14_0 : Int32), (∀ J17 : Int32 → Int32 → Prop, (∀ (v17_2 : Int32) (v17_3 : Int32), (((10 : Int32) ≤ v17_3 →
 wp_X6_layContents h this p0 (fun h7 =>
 (∀ J107 : Int32 → Prop, (∀ (t107_0 : Int32), (b01 t107_0 ∧
 post t107_0 h7) → J107 t107_0) →
 (∀ J106 : Prop, ((J107 (0 : Int32)) → J106) →
 ((v17_2 = 0 →
 J106) ∧ (¬ (v17_2 = 0) →
 (hT h7 this = 8 ∧
 (∃ a11 : Nat, hR h7 this 25 = some a11 ∧
 (∃ a12 : Nat, hR h7 this 15 = some a12 ∧
 (hT h7 a12 = 20 ∧
 (∃ j14 : Nat, p0 = nI j14 ∧ j14 < 2147483648 ∧ j14 < hL h7 a12 ∧
 (∃ x15 : Int32, hI h7 a12 j14 = x15 ∧
 (hT h7 a11 = 21 ∧
 (∃ j17 : Nat, ((30 : Int32) * (x15 - (1 : Int32))) + p0 = nI j17 ∧ j17 < 2147483648 ∧ j17 < hL h7 a11 ∧
 (∃ x18 : Int32, hI h7 a11 j17 = x18 ∧
 ((x18 = 0 →
 J106) ∧ (¬ (x18 = 0) →
 (∃ a20 : Nat, hR h7 this 15 = some a20 ∧
 (hT h7 a20 = 20 ∧
 (∃ j22 : Nat, p0 = nI j22 ∧ j22 < 2147483648 ∧ j22 < hL h7 a20 ∧
 (∃ x23 : Int32, hI h7 a20 j22 = x23 ∧
 wp_X6_isOfContents h7 this (x23 - (1 : Int32)) (fun x24 =>
 ((x24 = 0 →
 J106) ∧ (¬ (x24 = 0) →
 J107 (1 : Int32))))))))))))))))))))))))) ∧ (¬ ((10 : Int32) ≤ v17_3) →
 (∀ J50 : Int32 → Prop, (∀ (t50_0 : Int32), (J17 t50_0 (v17_3 + (1 : Int32))) → J50 t50_0) →
 (∀ J49 : Prop, ((J50 (0 : Int32)) → J49) →
 ((v17_2 = 0 →
 J49) ∧ (¬ (v17_2 = 0) →
 (∃ a27 : Nat, hR h this 4 = some a27 ∧
 (hT h a27 = 21 ∧
 (∃ j29 : Nat, v17_3 = nI j29 ∧ j29 < 2147483648 ∧ j29 < hL h a27 ∧
 (∃ x30 : Int32, hI h a27 j29 = x30 ∧
 (∀ J45 : Prop, ((J50 (1 : Int32)) → J45) →
 ((x30 = 0 →
 J45) ∧ (¬ (x30 = 0) →
 wp_X6_doesLack h this p0 v17_3 (fun x32 =>
 ((x32 = 0 →
 J45) ∧ (¬ (x32 = 0) →
 J49)))))))))))))))) → J17 v17_2 v17_3) →
 J17 t14_0 (0 : Int32)) → J14 t14_0) →
 ((x5 ≤ 0 →
 J14 (0 : Int32)) ∧ (¬ (x5 ≤ 0) →
 J14 (1 : Int32)))))))))
set_option maxHeartbeats 4000000 in
set_option maxRecDepth 100000 in
theorem m_X6_fits {E : Ev} {l : Launch} (hl : l.stackTraces = false) {h : Hp} {this : Nat} {p0 : Int32} {post : Int32 → Hp → Prop} (hw : wp_X6_fits h this p0 post) : MT E l yX6_fits cX6_fits 4 (some .boolean) 2 45 0 0 h [.ref this, .int p0] (poI post) (pxN) := by
  refine MT.of (by decide) hl (Nat.le_of_ble_eq_true rfl) (fun p e s m args below meth c C => ?_)
  unfold wp_X6_fits at hw
  have C : CX E p l s m args meth c cX6_fits 4 "TaktLineModel" "fits" (some .boolean) [] := C
  show WS E p l e (rmOf 2 0 0 45) s m args below meth c 4 (vx_MQ below (qcP E (poI post)) (xcP E (pxN)) args s 0 0 (bsA E)) h 0 0 0 [(0, .ref this), (1, .int p0)] []
  refine r_aload_n C dX6_fits_0 rfl rfl ?_
  obtain ⟨g1, hw⟩ := hw
  obtain ⟨a2, e2, hw⟩ := hw
  refine r_getA C K8 ob8 g1 (by decide) 15 (by decide) w_828 (fun _ z => z) e2 rfl dX6_fits_1 ?_
  refine r_iload_n C dX6_fits_4 rfl rfl ?_
  obtain ⟨g3, hw⟩ := hw
  obtain ⟨j4, f4, l4, k4, hw⟩ := hw
  obtain ⟨x5, e5, hw⟩ := hw
  refine a_I C g3 f4 l4 k4 e5 dX6_fits_5 ?_
  replace hw := hw (fun (t14_0 : Int32) => WS E p l e (rmOf 2 0 0 45) s m args below meth c 4 (vx_MQ below (qcP E (poI post)) (xcP E (pxN)) args s 0 0 (bsA E)) h 0 0 14 [(0, .ref this), (1, .int p0)] [.int t14_0]) (by
    intro t14_0 hv
    replace hw := hv
    clear hv
    refine r_istore_n C dX6_fits_14 rfl (by decide) [(0, .ref this), (1, .int p0), (2, .int t14_0)] ⟨rfl, rfl, rfl, trivial⟩ ?_
    refine r_iconst (v := (0 : Int32)) C dX6_fits_15 (by decide) ?_
    refine r_istore_n C dX6_fits_16 rfl (by decide) [(0, .ref this), (1, .int p0), (2, .int t14_0), (3, .int (0 : Int32))] ⟨rfl, rfl, rfl, rfl, trivial⟩ ?_
    replace hw := hw (fun (v17_2 : Int32) (v17_3 : Int32) => WS E p l e (rmOf 2 0 0 45) s m args below meth c 4 (vx_MQ below (qcP E (poI post)) (xcP E (pxN)) args s 0 0 (bsA E)) h 0 0 17 [(0, .ref this), (1, .int p0), (2, .int v17_2), (3, .int v17_3)] []) (by
      intro v17_2 v17_3 hv
      replace hw := hv
      clear hv
      refine r_iload_n C dX6_fits_17 rfl rfl ?_
      refine r_bipush (v := (10 : Int32)) C dX6_fits_18 (by decide) ?_
      refine r_icmp_ge C 57 dX6_fits_20 (by decide) (fun z6 => ?_) (fun z6 => ?_)
      · replace hw := hw.1 z6
        refine r_aload_n C dX6_fits_57 rfl rfl ?_
        refine r_iload_n C dX6_fits_58 rfl rfl ?_
        refine r_callV (As := [.int p0]) (st := []) C (m_X6_layContents hl hw) v_X6_layContents w_980 K8 g1 (by decide) ob8 rfl ⟨leb rfl, leb rfl⟩ ⟨leb rfl, leb rfl⟩ rfl (leb rfl) dX6_fits_59 (fun _ _ z => z.elim) (kkV (K := fun hK sK => WS E p l e (rmOf 2 0 0 45) s m args below meth c 4 (vx_MQ below (qcP E (poI post)) (xcP E (pxN)) args s 0 0 (bsA E)) hK (0 + 0) (0 + 0) (59 + 3) [(0, .ref this), (1, .int p0), (2, .int v17_2), (3, .int v17_3)] sK) (fun h7 hv => ?_))
        replace hw := hv
        clear hv
        refine r_iload_n C dX6_fits_62 rfl rfl ?_
        replace hw := hw (fun (t107_0 : Int32) => WS E p l e (rmOf 2 0 0 45) s m args below meth c 4 (vx_MQ below (qcP E (poI post)) (xcP E (pxN)) args s 0 0 (bsA E)) h7 0 0 107 [] [.int t107_0]) (by
          intro t107_0 hv
          replace hw := hv
          clear hv
          obtain ⟨y8, hw⟩ := hw
          exact r_zret C y8 dX6_fits_107 (by decide) (by decide) ⟨_, rfl, hw⟩
          )
        replace hw := hw (WS E p l e (rmOf 2 0 0 45) s m args below meth c 4 (vx_MQ below (qcP E (poI post)) (xcP E (pxN)) args s 0 0 (bsA E)) h7 0 0 106 [] []) (by
          intro hv
          replace hw := hv
          clear hv
          refine r_iconst (v := (0 : Int32)) C dX6_fits_106 (by decide) ?_
          exact (r_subk hw trivial)
          )
        refine r_if_eq C 106 dX6_fits_63 (by decide) (fun z9 => ?_) (fun z9 => ?_)
        · replace hw := hw.1 z9
          exact (r_subk hw trivial)
        · replace hw := hw.2 z9
          refine r_aload_n C dX6_fits_66 rfl rfl ?_
          obtain ⟨g10, hw⟩ := hw
          obtain ⟨a11, e11, hw⟩ := hw
          refine r_getA C K8 ob8 g10 (by decide) 25 (by decide) w_838 (fun _ z => z) e11 rfl dX6_fits_67 ?_
          refine r_bipush (v := (30 : Int32)) C dX6_fits_70 (by decide) ?_
          refine r_aload_n C dX6_fits_72 rfl rfl ?_
          obtain ⟨a12, e12, hw⟩ := hw
          refine r_getA C K8 ob8 g10 (by decide) 15 (by decide) w_828 (fun _ z => z) e12 rfl dX6_fits_73 ?_
          refine r_iload_n C dX6_fits_76 rfl rfl ?_
          obtain ⟨g13, hw⟩ := hw
          obtain ⟨j14, f14, l14, k14, hw⟩ := hw
          obtain ⟨x15, e15, hw⟩ := hw
          refine a_I C g13 f14 l14 k14 e15 dX6_fits_77 ?_
          refine r_iconst (v := (1 : Int32)) C dX6_fits_78 (by decide) ?_
          refine r_isub C dX6_fits_79 ?_
          refine r_imul C dX6_fits_80 ?_
          refine r_iload_n C dX6_fits_81 rfl rfl ?_
          refine r_iadd C dX6_fits_82 ?_
          obtain ⟨g16, hw⟩ := hw
          obtain ⟨j17, f17, l17, k17, hw⟩ := hw
          obtain ⟨x18, e18, hw⟩ := hw
          refine a_B C g16 f17 l17 k17 e18 dX6_fits_83 ?_
          refine r_if_eq C 106 dX6_fits_84 (by decide) (fun z19 => ?_) (fun z19 => ?_)
          · replace hw := hw.1 z19
            exact (r_subk hw trivial)
          · replace hw := hw.2 z19
            refine r_aload_n C dX6_fits_87 rfl rfl ?_
            refine r_aload_n C dX6_fits_88 rfl rfl ?_
            obtain ⟨a20, e20, hw⟩ := hw
            refine r_getA C K8 ob8 g10 (by decide) 15 (by decide) w_828 (fun _ z => z) e20 rfl dX6_fits_89 ?_
            refine r_iload_n C dX6_fits_92 rfl rfl ?_
            obtain ⟨g21, hw⟩ := hw
            obtain ⟨j22, f22, l22, k22, hw⟩ := hw
            obtain ⟨x23, e23, hw⟩ := hw
            refine a_I C g21 f22 l22 k22 e23 dX6_fits_93 ?_
            refine r_iconst (v := (1 : Int32)) C dX6_fits_94 (by decide) ?_
            refine r_isub C dX6_fits_95 ?_
            refine r_callV (As := [.int (x23 - (1 : Int32))]) (st := []) C (m_X6_isOfContents hl hw) v_X6_isOfContents w_984 K8 g10 (by decide) ob8 rfl ⟨leb rfl, leb rfl⟩ ⟨leb rfl, leb rfl⟩ rfl (leb rfl) dX6_fits_96 (fun _ _ z => z.elim) (kpI (K := fun hK sK => WS E p l e (rmOf 2 0 0 45) s m args below meth c 4 (vx_MQ below (qcP E (poI post)) (xcP E (pxN)) args s 0 0 (bsA E)) hK (0 + 0) (0 + 0) (96 + 3) [(0, .ref this), (1, .int p0), (2, .int v17_2), (3, .int v17_3)] sK) (fun x24 hv => ?_))
            replace hw := hv
            clear hv
            refine r_if_eq C 106 dX6_fits_99 (by decide) (fun z25 => ?_) (fun z25 => ?_)
            · replace hw := hw.1 z25
              exact (r_subk hw trivial)
            · replace hw := hw.2 z25
              refine r_iconst (v := (1 : Int32)) C dX6_fits_102 (by decide) ?_
              refine r_goto C 107 dX6_fits_103 (by decide) ?_
              exact (r_subk hw trivial)
      · replace hw := hw.2 z6
        refine r_iload_n C dX6_fits_23 rfl rfl ?_
        replace hw := hw (fun (t50_0 : Int32) => WS E p l e (rmOf 2 0 0 45) s m args below meth c 4 (vx_MQ below (qcP E (poI post)) (xcP E (pxN)) args s 0 0 (bsA E)) h 0 0 50 [(0, .ref this), (1, .int p0), (3, .int v17_3)] [.int t50_0]) (by
          intro t50_0 hv
          replace hw := hv
          clear hv
          refine r_istore_n C dX6_fits_50 rfl (by decide) [(0, .ref this), (1, .int p0), (2, .int t50_0), (3, .int v17_3)] ⟨rfl, rfl, rfl, rfl, trivial⟩ ?_
          refine r_iinc C (v17_3 + (1 : Int32)) dX6_fits_51 rfl rfl (by decide) [(0, .ref this), (1, .int p0), (2, .int t50_0), (3, .int (v17_3 + (1 : Int32)))] ⟨rfl, rfl, rfl, rfl, trivial⟩ ?_
          refine r_goto C 17 dX6_fits_54 (by decide) ?_
          exact (r_subk hw ⟨rfl, rfl, rfl, rfl, trivial⟩)
          )
        replace hw := hw (WS E p l e (rmOf 2 0 0 45) s m args below meth c 4 (vx_MQ below (qcP E (poI post)) (xcP E (pxN)) args s 0 0 (bsA E)) h 0 0 49 [(0, .ref this), (1, .int p0), (3, .int v17_3)] []) (by
          intro hv
          replace hw := hv
          clear hv
          refine r_iconst (v := (0 : Int32)) C dX6_fits_49 (by decide) ?_
          exact (r_subk hw ⟨rfl, rfl, rfl, trivial⟩)
          )
        refine r_if_eq C 49 dX6_fits_24 (by decide) (fun z26 => ?_) (fun z26 => ?_)
        · replace hw := hw.1 z26
          exact (r_subk hw ⟨rfl, rfl, rfl, trivial⟩)
        · replace hw := hw.2 z26
          refine r_aload_n C dX6_fits_27 rfl rfl ?_
          obtain ⟨a27, e27, hw⟩ := hw
          refine r_getA C K8 ob8 g1 (by decide) 4 (by decide) w_817 (fun _ z => z) e27 rfl dX6_fits_28 ?_
          refine r_iload_n C dX6_fits_31 rfl rfl ?_
          obtain ⟨g28, hw⟩ := hw
          obtain ⟨j29, f29, l29, k29, hw⟩ := hw
          obtain ⟨x30, e30, hw⟩ := hw
          refine a_B C g28 f29 l29 k29 e30 dX6_fits_32 ?_
          replace hw := hw (WS E p l e (rmOf 2 0 0 45) s m args below meth c 4 (vx_MQ below (qcP E (poI post)) (xcP E (pxN)) args s 0 0 (bsA E)) h 0 0 45 [(0, .ref this), (1, .int p0), (3, .int v17_3)] []) (by
            intro hv
            replace hw := hv
            clear hv
            refine r_iconst (v := (1 : Int32)) C dX6_fits_45 (by decide) ?_
            refine r_goto C 50 dX6_fits_46 (by decide) ?_
            exact (r_subk hw ⟨rfl, rfl, rfl, trivial⟩)
            )
          refine r_if_eq C 45 dX6_fits_33 (by decide) (fun z31 => ?_) (fun z31 => ?_)
          · replace hw := hw.1 z31
            exact (r_subk hw ⟨rfl, rfl, rfl, trivial⟩)
          · replace hw := hw.2 z31
            refine r_aload_n C dX6_fits_36 rfl rfl ?_
            refine r_iload_n C dX6_fits_37 rfl rfl ?_
            refine r_iload_n C dX6_fits_38 rfl rfl ?_
            refine r_callV (As := [.int p0, .int v17_3]) (st := []) C (m_X6_doesLack hl hw) v_X6_doesLack w_959 K8 g1 (by decide) ob8 rfl ⟨leb rfl, leb rfl⟩ ⟨leb rfl, leb rfl⟩ rfl (leb rfl) dX6_fits_39 (fun _ _ z => z.elim) (kpI (K := fun hK sK => WS E p l e (rmOf 2 0 0 45) s m args below meth c 4 (vx_MQ below (qcP E (poI post)) (xcP E (pxN)) args s 0 0 (bsA E)) hK (0 + 0) (0 + 0) (39 + 3) [(0, .ref this), (1, .int p0), (2, .int v17_2), (3, .int v17_3)] sK) (fun x32 hv => ?_))
            replace hw := hv
            clear hv
            refine r_if_ne C 49 dX6_fits_42 (by decide) (fun z33 => ?_) (fun z33 => ?_)
            · replace hw := hw.2 z33
              exact (r_subk hw ⟨rfl, rfl, rfl, trivial⟩)
            · replace hw := hw.1 z33
              exact (r_subk hw ⟨rfl, rfl, rfl, trivial⟩)
      )
    exact (r_subk hw ⟨rfl, rfl, rfl, rfl, trivial⟩)
    )
  refine r_if_le C 13 dX6_fits_6 (by decide) (fun z34 => ?_) (fun z34 => ?_)
  · replace hw := hw.1 z34
    refine r_iconst (v := (0 : Int32)) C dX6_fits_13 (by decide) ?_
    exact (r_subk hw ⟨rfl, rfl, trivial⟩)
  · replace hw := hw.2 z34
    refine r_iconst (v := (1 : Int32)) C dX6_fits_9 (by decide) ?_
    refine r_goto C 14 dX6_fits_10 (by decide) ?_
    exact (r_subk hw ⟨rfl, rfl, trivial⟩)
theorem v_X6_fits : MV yX6_fits cX6_fits 4 (some .boolean) 1 := ⟨w_1019, w_1018, w_45, w_60, ⟨by decide +kernel, by decide +kernel, by decide +kernel⟩⟩

def wp_X6_build (h : Hp) (this : Nat) (p0 : Int32) (post : Int32 → Hp → Prop) : Prop :=
(hT h this = 8 ∧
 wp_X6_isCar h this p0 (fun x1 =>
 (∀ J51 : Int32 → Hp → Prop, (∀ (v51_3 : Int32) (h51_ : Hp), (∀ J79 : Int32 → Prop, (∀ (t79_0 : Int32), (hT h51_ this = 8 ∧
 wp_X6_goesWell h51_ this t79_0 (fun x3 h3 =>
 ((x3 = 0 →
 post (0 : Int32) h3) ∧ (¬ (x3 = 0) →
 ((v51_3 = (-1 : Int32) →
 (∀ J97 : Int32 → Hp → Prop, (∀ (v97_4 : Int32) (h97_ : Hp), (((10 : Int32) ≤ v97_4 →
 (hT h97_ this = 8 ∧
 (∃ x9 : Int32, hI h97_ this 23 = x9 ∧
 (∀ h10, h10 = sI h97_ this 23 (x9 + (1 : Int32)) →
 (∃ x12 : Int32, hI h10 this 23 = x12 ∧
 post (x12 - (1 : Int32)) h10))))) ∧ (¬ ((10 : Int32) ≤ v97_4) →
 (hT h97_ this = 8 ∧
 (∃ a14 : Nat, hR h97_ this 24 = some a14 ∧
 (∃ x15 : Int32, hI h97_ this 23 = x15 ∧
 (∃ a16 : Nat, hR h97_ this 26 = some a16 ∧
 (hT h97_ a16 = 20 ∧
 (∃ j18 : Nat, v97_4 = nI j18 ∧ j18 < 2147483648 ∧ j18 < hL h97_ a16 ∧
 (∃ x19 : Int32, hI h97_ a16 j18 = x19 ∧
 (hT h97_ a14 = 20 ∧
 (∃ j21 : Nat, ((10 : Int32) * x15) + v97_4 = nI j21 ∧ j21 < 2147483648 ∧ j21 < hL h97_ a14 ∧
 (∀ h22, h22 = sI h97_ a14 j21 x19 →
 J97 (v97_4 + (1 : Int32)) h22)))))))))))) → J97 v97_4 h97_) →
 J97 (0 : Int32) h3)) ∧ (¬ (v51_3 = (-1 : Int32)) →
 post v51_3 h3)))))) → J79 t79_0) →
 ((x1 = 0 →
 J79 (1 : Int32)) ∧ (¬ (x1 = 0) →
 (∀ J78 : Prop, ((J79 (0 : Int32)) → J78) →
 ((v51_3 = (-1 : Int32) →
 (hT h51_ this = 8 ∧
 (∃ x26 : Int32, hI h51_ this 23 = x26 ∧
 ((x26 = (40 : Int32) →
 J79 (2 : Int32)) ∧ (¬ (x26 = (40 : Int32)) →
 J78))))) ∧ (¬ (v51_3 = (-1 : Int32)) →
 J78)))))) → J51 v51_3 h51_) →
 ((x1 = 0 →
 J51 (-1 : Int32) h) ∧ (¬ (x1 = 0) →
 wp_X6_layContents h this p0 (fun h29 =>
 (∀ J20 : Int32 → Int32 → Prop, (∀ (v20_3 : Int32) (v20_4 : Int32), (hT h29 this = 8 ∧
 (∃ x31 : Int32, hI h29 this 23 = x31 ∧
 ((x31 ≤ v20_4 →
 J51 v20_3 h29) ∧ (¬ (x31 ≤ v20_4) →
 wp_X6_isOfContents h29 this v20_4 (fun x33 =>
 (∀ J44 : Int32 → Prop, (∀ (t44_0 : Int32), (J20 t44_0 (v20_4 + (1 : Int32))) → J44 t44_0) →
 ((x33 = 0 →
 J44 v20_3) ∧ (¬ (x33 = 0) →
 J44 v20_4)))))))) → J20 v20_3 v20_4) →
 J20 (-1 : Int32) (0 : Int32))))))))
set_option maxHeartbeats 4000000 in
set_option maxRecDepth 100000 in
theorem m_X6_build {E : Ev} {l : Launch} (hl : l.stackTraces = false) {h : Hp} {this : Nat} {p0 : Int32} {post : Int32 → Hp → Prop} (hw : wp_X6_build h this p0 post) : MT E l yX6_build cX6_build 5 (some .int) 2 43 0 0 h [.ref this, .int p0] (poI post) (pxN) := by
  refine MT.of (by decide) hl (Nat.le_of_ble_eq_true rfl) (fun p e s m args below meth c C => ?_)
  unfold wp_X6_build at hw
  have C : CX E p l s m args meth c cX6_build 5 "TaktLineModel" "build" (some .int) [] := C
  show WS E p l e (rmOf 2 0 0 43) s m args below meth c 5 (vx_MQ below (qcP E (poI post)) (xcP E (pxN)) args s 0 0 (bsA E)) h 0 0 0 [(0, .ref this), (1, .int p0)] []
  refine r_aload_n C dX6_build_0 rfl rfl ?_
  refine r_iload_n C dX6_build_1 rfl rfl ?_
  obtain ⟨g2, hw⟩ := hw
  refine r_callV (As := [.int p0]) (st := []) C (m_X6_isCar hl hw) v_X6_isCar w_943 K8 g2 (by decide) ob8 rfl ⟨leb rfl, leb rfl⟩ ⟨leb rfl, leb rfl⟩ rfl (leb rfl) dX6_build_2 (fun _ _ z => z.elim) (kpI (K := fun hK sK => WS E p l e (rmOf 2 0 0 43) s m args below meth c 5 (vx_MQ below (qcP E (poI post)) (xcP E (pxN)) args s 0 0 (bsA E)) hK (0 + 0) (0 + 0) (2 + 3) [(0, .ref this), (1, .int p0)] sK) (fun x1 hv => ?_))
  replace hw := hv
  clear hv
  refine r_istore_n C dX6_build_5 rfl (by decide) [(0, .ref this), (1, .int p0), (2, .int x1)] ⟨rfl, rfl, rfl, trivial⟩ ?_
  refine r_iconst (v := (-1 : Int32)) C dX6_build_6 (by decide) ?_
  refine r_istore_n C dX6_build_7 rfl (by decide) [(0, .ref this), (1, .int p0), (2, .int x1), (3, .int (-1 : Int32))] ⟨rfl, rfl, rfl, rfl, trivial⟩ ?_
  refine r_iload_n C dX6_build_8 rfl rfl ?_
  replace hw := hw (fun (v51_3 : Int32) (h51_ : Hp) => WS E p l e (rmOf 2 0 0 43) s m args below meth c 5 (vx_MQ below (qcP E (poI post)) (xcP E (pxN)) args s 0 0 (bsA E)) h51_ 0 0 51 [(0, .ref this), (2, .int x1), (3, .int v51_3)] []) (by
    intro v51_3 h51_ hv
    replace hw := hv
    clear hv
    refine r_aload_n C dX6_build_51 rfl rfl ?_
    refine r_iload_n C dX6_build_52 rfl rfl ?_
    replace hw := hw (fun (t79_0 : Int32) => WS E p l e (rmOf 2 0 0 43) s m args below meth c 5 (vx_MQ below (qcP E (poI post)) (xcP E (pxN)) args s 0 0 (bsA E)) h51_ 0 0 79 [(0, .ref this), (3, .int v51_3)] [.int t79_0, .ref this]) (by
      intro t79_0 hv
      replace hw := hv
      clear hv
      obtain ⟨g4, hw⟩ := hw
      refine r_callV (As := [.int t79_0]) (st := []) C (m_X6_goesWell hl hw) v_X6_goesWell w_919 K8 g4 (by decide) ob8 rfl ⟨leb rfl, leb rfl⟩ ⟨leb rfl, leb rfl⟩ rfl (leb rfl) dX6_build_79 (fun _ _ z => z.elim) (kkI (K := fun hK sK => WS E p l e (rmOf 2 0 0 43) s m args below meth c 5 (vx_MQ below (qcP E (poI post)) (xcP E (pxN)) args s 0 0 (bsA E)) hK (0 + 0) (0 + 0) (79 + 3) [(0, .ref this), (3, .int v51_3)] sK) (fun x3 h3 hv => ?_))
      replace hw := hv
      clear hv
      refine r_if_ne C 87 dX6_build_82 (by decide) (fun z5 => ?_) (fun z5 => ?_)
      · replace hw := hw.2 z5
        refine r_iload_n C dX6_build_87 rfl rfl ?_
        refine r_iconst (v := (-1 : Int32)) C dX6_build_88 (by decide) ?_
        refine r_icmp_eq C 94 dX6_build_89 (by decide) (fun z6 => ?_) (fun z6 => ?_)
        · replace hw := hw.1 z6
          refine r_iconst (v := (0 : Int32)) C dX6_build_94 (by decide) ?_
          refine r_istore C dX6_build_95 (by decide) [(0, .ref this), (4, .int (0 : Int32))] ⟨rfl, rfl, trivial⟩ ?_
          replace hw := hw (fun (v97_4 : Int32) (h97_ : Hp) => WS E p l e (rmOf 2 0 0 43) s m args below meth c 5 (vx_MQ below (qcP E (poI post)) (xcP E (pxN)) args s 0 0 (bsA E)) h97_ 0 0 97 [(0, .ref this), (4, .int v97_4)] []) (by
            intro v97_4 h97_ hv
            replace hw := hv
            clear hv
            refine r_iload C dX6_build_97 rfl ?_
            refine r_bipush (v := (10 : Int32)) C dX6_build_99 (by decide) ?_
            refine r_icmp_ge C 132 dX6_build_101 (by decide) (fun z7 => ?_) (fun z7 => ?_)
            · replace hw := hw.1 z7
              refine r_aload_n C dX6_build_132 rfl rfl ?_
              refine r_dup C dX6_build_133 rfl ?_
              obtain ⟨g8, hw⟩ := hw
              obtain ⟨x9, e9, hw⟩ := hw
              refine r_getI C K8 ob8 g8 (by decide) 23 (by decide) w_836 (fun _ z => z) e9 rfl dX6_build_134 ?_
              refine r_iconst (v := (1 : Int32)) C dX6_build_137 (by decide) ?_
              refine r_iadd C dX6_build_138 ?_
              obtain ⟨h10, eh10⟩ : ∃ z, z = sI h97_ this 23 (x9 + (1 : Int32)) := ⟨_, rfl⟩
              replace hw := hw h10 eh10
              refine p_I C K8 ob8 g8 (by decide) 23 (by decide) w_836 (fun _ z => z) rfl (by decide +kernel) (Nat.le_of_ble_eq_true rfl) rfl dX6_build_139 eh10 ?_
              refine r_aload_n C dX6_build_142 rfl rfl ?_
              have g11 : hT h10 this = 8 := by rw [eh10]; exact g8
              obtain ⟨x12, e12, hw⟩ := hw
              refine r_getI C K8 ob8 g11 (by decide) 23 (by decide) w_836 (fun _ z => z) e12 rfl dX6_build_143 ?_
              refine r_iconst (v := (1 : Int32)) C dX6_build_146 (by decide) ?_
              refine r_isub C dX6_build_147 ?_
              exact r_iret C dX6_build_148 (by decide) (by decide) ⟨_, rfl, hw⟩
            · replace hw := hw.2 z7
              refine r_aload_n C dX6_build_104 rfl rfl ?_
              obtain ⟨g13, hw⟩ := hw
              obtain ⟨a14, e14, hw⟩ := hw
              refine r_getA C K8 ob8 g13 (by decide) 24 (by decide) w_837 (fun _ z => z) e14 rfl dX6_build_105 ?_
              refine r_bipush (v := (10 : Int32)) C dX6_build_108 (by decide) ?_
              refine r_aload_n C dX6_build_110 rfl rfl ?_
              obtain ⟨x15, e15, hw⟩ := hw
              refine r_getI C K8 ob8 g13 (by decide) 23 (by decide) w_836 (fun _ z => z) e15 rfl dX6_build_111 ?_
              refine r_imul C dX6_build_114 ?_
              refine r_iload C dX6_build_115 rfl ?_
              refine r_iadd C dX6_build_117 ?_
              refine r_aload_n C dX6_build_118 rfl rfl ?_
              obtain ⟨a16, e16, hw⟩ := hw
              refine r_getA C K8 ob8 g13 (by decide) 26 (by decide) w_839 (fun _ z => z) e16 rfl dX6_build_119 ?_
              refine r_iload C dX6_build_122 rfl ?_
              obtain ⟨g17, hw⟩ := hw
              obtain ⟨j18, f18, l18, k18, hw⟩ := hw
              obtain ⟨x19, e19, hw⟩ := hw
              refine a_I C g17 f18 l18 k18 e19 dX6_build_124 ?_
              obtain ⟨g20, hw⟩ := hw
              obtain ⟨j21, f21, l21, k21, hw⟩ := hw
              obtain ⟨h22, eh22⟩ : ∃ z, z = sI h97_ a14 j21 x19 := ⟨_, rfl⟩
              replace hw := hw h22 eh22
              refine s_I C g20 f21 l21 k21 dX6_build_125 eh22 ?_
              refine r_iinc C (v97_4 + (1 : Int32)) dX6_build_126 rfl rfl (by decide) [(0, .ref this), (4, .int (v97_4 + (1 : Int32)))] ⟨rfl, rfl, trivial⟩ ?_
              refine r_goto C 97 dX6_build_129 (by decide) ?_
              exact (r_subk hw ⟨rfl, rfl, trivial⟩)
            )
          exact (r_subk hw ⟨rfl, rfl, trivial⟩)
        · replace hw := hw.2 z6
          refine r_iload_n C dX6_build_92 rfl rfl ?_
          exact r_iret C dX6_build_93 (by decide) (by decide) ⟨_, rfl, hw⟩
      · replace hw := hw.1 z5
        refine r_iconst (v := (0 : Int32)) C dX6_build_85 (by decide) ?_
        exact r_iret C dX6_build_86 (by decide) (by decide) ⟨_, rfl, hw⟩
      )
    refine r_if_ne C 60 dX6_build_53 (by decide) (fun z23 => ?_) (fun z23 => ?_)
    · replace hw := hw.2 z23
      refine r_iload_n C dX6_build_60 rfl rfl ?_
      refine r_iconst (v := (-1 : Int32)) C dX6_build_61 (by decide) ?_
      replace hw := hw (WS E p l e (rmOf 2 0 0 43) s m args below meth c 5 (vx_MQ below (qcP E (poI post)) (xcP E (pxN)) args s 0 0 (bsA E)) h51_ 0 0 78 [(0, .ref this), (3, .int v51_3)] [.ref this]) (by
        intro hv
        replace hw := hv
        clear hv
        refine r_iconst (v := (0 : Int32)) C dX6_build_78 (by decide) ?_
        exact (r_subk hw ⟨rfl, rfl, trivial⟩)
        )
      refine r_icmp_ne C 78 dX6_build_62 (by decide) (fun z24 => ?_) (fun z24 => ?_)
      · replace hw := hw.2 z24
        exact (r_subk hw ⟨rfl, rfl, trivial⟩)
      · replace hw := hw.1 z24
        refine r_aload_n C dX6_build_65 rfl rfl ?_
        obtain ⟨g25, hw⟩ := hw
        obtain ⟨x26, e26, hw⟩ := hw
        refine r_getI C K8 ob8 g25 (by decide) 23 (by decide) w_836 (fun _ z => z) e26 rfl dX6_build_66 ?_
        refine r_bipush (v := (40 : Int32)) C dX6_build_69 (by decide) ?_
        refine r_icmp_ne C 78 dX6_build_71 (by decide) (fun z27 => ?_) (fun z27 => ?_)
        · replace hw := hw.2 z27
          exact (r_subk hw ⟨rfl, rfl, trivial⟩)
        · replace hw := hw.1 z27
          refine r_iconst (v := (2 : Int32)) C dX6_build_74 (by decide) ?_
          refine r_goto C 79 dX6_build_75 (by decide) ?_
          exact (r_subk hw ⟨rfl, rfl, trivial⟩)
    · replace hw := hw.1 z23
      refine r_iconst (v := (1 : Int32)) C dX6_build_56 (by decide) ?_
      refine r_goto C 79 dX6_build_57 (by decide) ?_
      exact (r_subk hw ⟨rfl, rfl, trivial⟩)
    )
  refine r_if_eq C 51 dX6_build_9 (by decide) (fun z28 => ?_) (fun z28 => ?_)
  · replace hw := hw.1 z28
    exact (r_subk hw ⟨rfl, rfl, rfl, trivial⟩)
  · replace hw := hw.2 z28
    refine r_aload_n C dX6_build_12 rfl rfl ?_
    refine r_iload_n C dX6_build_13 rfl rfl ?_
    refine r_callV (As := [.int p0]) (st := []) C (m_X6_layContents hl hw) v_X6_layContents w_980 K8 g2 (by decide) ob8 rfl ⟨leb rfl, leb rfl⟩ ⟨leb rfl, leb rfl⟩ rfl (leb rfl) dX6_build_14 (fun _ _ z => z.elim) (kkV (K := fun hK sK => WS E p l e (rmOf 2 0 0 43) s m args below meth c 5 (vx_MQ below (qcP E (poI post)) (xcP E (pxN)) args s 0 0 (bsA E)) hK (0 + 0) (0 + 0) (14 + 3) [(0, .ref this), (1, .int p0), (2, .int x1), (3, .int (-1 : Int32))] sK) (fun h29 hv => ?_))
    replace hw := hv
    clear hv
    refine r_iconst (v := (0 : Int32)) C dX6_build_17 (by decide) ?_
    refine r_istore C dX6_build_18 (by decide) [(0, .ref this), (2, .int x1), (3, .int (-1 : Int32)), (4, .int (0 : Int32))] ⟨rfl, rfl, rfl, rfl, trivial⟩ ?_
    replace hw := hw (fun (v20_3 : Int32) (v20_4 : Int32) => WS E p l e (rmOf 2 0 0 43) s m args below meth c 5 (vx_MQ below (qcP E (poI post)) (xcP E (pxN)) args s 0 0 (bsA E)) h29 0 0 20 [(0, .ref this), (2, .int x1), (3, .int v20_3), (4, .int v20_4)] []) (by
      intro v20_3 v20_4 hv
      replace hw := hv
      clear hv
      refine r_iload C dX6_build_20 rfl ?_
      refine r_aload_n C dX6_build_22 rfl rfl ?_
      obtain ⟨g30, hw⟩ := hw
      obtain ⟨x31, e31, hw⟩ := hw
      refine r_getI C K8 ob8 g30 (by decide) 23 (by decide) w_836 (fun _ z => z) e31 rfl dX6_build_23 ?_
      refine r_icmp_ge C 51 dX6_build_26 (by decide) (fun z32 => ?_) (fun z32 => ?_)
      · replace hw := hw.1 z32
        exact (r_subk hw ⟨rfl, rfl, rfl, trivial⟩)
      · replace hw := hw.2 z32
        refine r_aload_n C dX6_build_29 rfl rfl ?_
        refine r_iload C dX6_build_30 rfl ?_
        refine r_callV (As := [.int v20_4]) (st := []) C (m_X6_isOfContents hl hw) v_X6_isOfContents w_984 K8 g30 (by decide) ob8 rfl ⟨leb rfl, leb rfl⟩ ⟨leb rfl, leb rfl⟩ rfl (leb rfl) dX6_build_32 (fun _ _ z => z.elim) (kpI (K := fun hK sK => WS E p l e (rmOf 2 0 0 43) s m args below meth c 5 (vx_MQ below (qcP E (poI post)) (xcP E (pxN)) args s 0 0 (bsA E)) hK (0 + 0) (0 + 0) (32 + 3) [(0, .ref this), (2, .int x1), (3, .int v20_3), (4, .int v20_4)] sK) (fun x33 hv => ?_))
        replace hw := hv
        clear hv
        replace hw := hw (fun (t44_0 : Int32) => WS E p l e (rmOf 2 0 0 43) s m args below meth c 5 (vx_MQ below (qcP E (poI post)) (xcP E (pxN)) args s 0 0 (bsA E)) h29 0 0 44 [(0, .ref this), (2, .int x1), (4, .int v20_4)] [.int t44_0]) (by
          intro t44_0 hv
          replace hw := hv
          clear hv
          refine r_istore_n C dX6_build_44 rfl (by decide) [(0, .ref this), (2, .int x1), (3, .int t44_0), (4, .int v20_4)] ⟨rfl, rfl, rfl, rfl, trivial⟩ ?_
          refine r_iinc C (v20_4 + (1 : Int32)) dX6_build_45 rfl rfl (by decide) [(0, .ref this), (2, .int x1), (3, .int t44_0), (4, .int (v20_4 + (1 : Int32)))] ⟨rfl, rfl, rfl, rfl, trivial⟩ ?_
          refine r_goto C 20 dX6_build_48 (by decide) ?_
          exact (r_subk hw ⟨rfl, rfl, rfl, rfl, trivial⟩)
          )
        refine r_if_eq C 43 dX6_build_35 (by decide) (fun z34 => ?_) (fun z34 => ?_)
        · replace hw := hw.1 z34
          refine r_iload_n C dX6_build_43 rfl rfl ?_
          exact (r_subk hw ⟨rfl, rfl, rfl, trivial⟩)
        · replace hw := hw.2 z34
          refine r_iload C dX6_build_38 rfl ?_
          refine r_goto C 44 dX6_build_40 (by decide) ?_
          exact (r_subk hw ⟨rfl, rfl, rfl, trivial⟩)
      )
    exact (r_subk hw ⟨rfl, rfl, rfl, rfl, trivial⟩)
theorem v_X6_build : MV yX6_build cX6_build 5 (some .int) 1 := ⟨w_979, w_977, w_978, w_60, ⟨by decide +kernel, by decide +kernel, by decide +kernel⟩⟩

