def wp_L_kind (h : Hp) (p0 : Nat) (p1 : Int32) (p2 : Int32) (p3 : Int32) (p4 : Int32) (p5 : Int32) (post : Int32 → Hp → Prop) : Prop :=
(hT h p0 = 7 ∧
 wp_X5_kind h p0 p1 p2 p3 p4 p5 (fun h1 =>
 post (0 : Int32) h1) (fun X h1 => (X = XB ∧ post (1 : Int32) h1) ∨ (X = XA ∧ post (2 : Int32) h1) ∨ (X = XS ∧ post (3 : Int32) h1)))
set_option maxHeartbeats 4000000 in
set_option maxRecDepth 100000 in
theorem m_L_kind {E : Ev} {l : Launch} (hl : l.stackTraces = false) {h : Hp} {p0 : Nat} {p1 : Int32} {p2 : Int32} {p3 : Int32} {p4 : Int32} {p5 : Int32} {post : Int32 → Hp → Prop} (hw : wp_L_kind h p0 p1 p2 p3 p4 p5 post) : MTW E l yL_kind cL_kind 7 (some .int) [(0, 11, 14, 13), (0, 11, 18, 15), (0, 11, 22, 17)] 9 169 2 12 h [.ref p0, .int p1, .int p2, .int p3, .int p4, .int p5] (poI post) (pxN) := by
  refine MTW.of (by decide) hl (Nat.le_of_ble_eq_true rfl) (fun p e s m args below meth c C => ?_)
  unfold wp_L_kind at hw
  have C : CX E p l s m args meth c cL_kind 7 "TaktLineLaw" "kind" (some .int) (tableOf [(0, 11, 14, 13), (0, 11, 18, 15), (0, 11, 22, 17)]) := C
  show WS E p l e (rmOf 9 2 12 169) s m args below meth c 7 (vx_MQ below (qcP E (poI post)) (xcP E (pxN)) args s 2 12 (bsA E)) h 0 0 0 [(0, .ref p0), (1, .int p1), (2, .int p2), (3, .int p3), (4, .int p4), (5, .int p5)] []
  refine r_aload_n C dL_kind_0 rfl rfl ?_
  refine r_iload_n C dL_kind_1 rfl rfl ?_
  refine r_iload_n C dL_kind_2 rfl rfl ?_
  refine r_iload_n C dL_kind_3 rfl rfl ?_
  refine r_iload C dL_kind_4 rfl ?_
  refine r_iload C dL_kind_6 rfl ?_
  obtain ⟨g2, hw⟩ := hw
  refine r_callV (As := [.int p1, .int p2, .int p3, .int p4, .int p5]) (st := []) C (m_X5_kind hl hw) v_X5_kind w_216 K7 g2 (by decide) ob7 rfl ⟨leb rfl, leb rfl⟩ ⟨leb rfl, leb rfl⟩ rfl (leb rfl) dL_kind_8 (fun X h1 hx => by
      replace hw := hx
      clear hx
      rcases hw with ⟨rfl, hv⟩ | ⟨rfl, hv⟩ | ⟨rfl, hv⟩
      · replace hw := hv
        clear hv
        refine r_catch C [] (tE 0 11 14 13) [tE 0 11 18 15, tE 0 11 22 17] rfl (fun z hz => by cases hz) (by decide) (by decide) w_213 (by decide +kernel) (fun q9 => ?_)
        refine r_astore C dL_kind_14 (by decide) [] trivial ?_
        refine r_iconst (v := (1 : Int32)) C dL_kind_16 (by decide) ?_
        exact r_iret C dL_kind_17 (by decide) (by decide) ⟨_, rfl, hw⟩
      · replace hw := hv
        clear hv
        refine r_catch C [tE 0 11 14 13] (tE 0 11 18 15) [tE 0 11 22 17] rfl (fun z hz => by rcases List.mem_cons.mp hz with rfl | hz; exact ⟨by decide, _, w_213, by decide +kernel⟩; cases hz) (by decide) (by decide) w_214 (by decide +kernel) (fun q9 => ?_)
        refine r_astore C dL_kind_18 (by decide) [] trivial ?_
        refine r_iconst (v := (2 : Int32)) C dL_kind_20 (by decide) ?_
        exact r_iret C dL_kind_21 (by decide) (by decide) ⟨_, rfl, hw⟩
      · replace hw := hv
        clear hv
        refine r_catch C [tE 0 11 14 13, tE 0 11 18 15] (tE 0 11 22 17) [] rfl (fun z hz => by rcases List.mem_cons.mp hz with rfl | hz; exact ⟨by decide, _, w_213, by decide +kernel⟩; rcases List.mem_cons.mp hz with rfl | hz; exact ⟨by decide, _, w_214, by decide +kernel⟩; cases hz) (by decide) (by decide) w_215 (by decide +kernel) (fun q9 => ?_)
        refine r_astore C dL_kind_22 (by decide) [] trivial ?_
        refine r_iconst (v := (3 : Int32)) C dL_kind_24 (by decide) ?_
        exact r_iret C dL_kind_25 (by decide) (by decide) ⟨_, rfl, hw⟩) (kkV (K := fun hK sK => WS E p l e (rmOf 9 2 12 169) s m args below meth c 7 (vx_MQ below (qcP E (poI post)) (xcP E (pxN)) args s 2 12 (bsA E)) hK (0 + 2) (0 + 12) (8 + 3) [(0, .ref p0), (1, .int p1), (2, .int p2), (3, .int p3), (4, .int p4), (5, .int p5)] sK) (fun h1 hv => ?_))
  replace hw := hv
  clear hv
  refine r_goto C 26 dL_kind_11 (by decide) ?_
  refine r_iconst (v := (0 : Int32)) C dL_kind_26 (by decide) ?_
  exact r_iret C dL_kind_27 (by decide) (by decide) ⟨_, rfl, hw⟩
theorem v_L_kind : MSW yL_kind cL_kind 7 (some .int) [(0, 11, 14, 13), (0, 11, 18, 15), (0, 11, 22, 17)] 6 := ⟨w_212, w_211, w_54, ⟨by decide +kernel, by decide +kernel, by decide +kernel⟩⟩

def wp_L_lot (dE : Nat) (h : Hp) (p0 : Nat) (p1 : Int32) (p2 : Int32) (p3 : Int32) (p4 : Nat) (post : Int32 → Hp → Prop) : Prop :=
(hT h p0 = 7 ∧
 wp_X5_lot dE h p0 p1 p2 p3 (fun x1 h1 =>
 (hT h1 p4 = 22 ∧
 (0 < hL h1 p4 ∧
 (∀ h5, h5 = sJ h1 p4 0 x1.toInt64 →
 post (0 : Int32) h5)))) (fun X h1 => (X = XB ∧ post (1 : Int32) h1) ∨ (X = XA ∧ post (2 : Int32) h1) ∨ (X = XS ∧ post (3 : Int32) h1)))
set_option maxHeartbeats 4000000 in
set_option maxRecDepth 100000 in
theorem m_L_lot {E : Ev} {l : Launch} (hl : l.stackTraces = false) {h : Hp} {p0 : Nat} {p1 : Int32} {p2 : Int32} {p3 : Int32} {p4 : Nat} {post : Int32 → Hp → Prop} (hw : wp_L_lot (eE E) h p0 p1 p2 p3 p4 post) : MTW E l yL_lot cL_lot 6 (some .int) [(0, 12, 15, 13), (0, 12, 19, 15), (0, 12, 23, 17)] 8 195 3 60 h [.ref p0, .int p1, .int p2, .int p3, .ref p4] (poI post) (pxN) := by
  refine MTW.of (by decide) hl (Nat.le_of_ble_eq_true rfl) (fun p e s m args below meth c C => ?_)
  unfold wp_L_lot at hw
  have C : CX E p l s m args meth c cL_lot 6 "TaktLineLaw" "lot" (some .int) (tableOf [(0, 12, 15, 13), (0, 12, 19, 15), (0, 12, 23, 17)]) := C
  show WS E p l e (rmOf 8 3 60 195) s m args below meth c 6 (vx_MQ below (qcP E (poI post)) (xcP E (pxN)) args s 3 60 (bsA E)) h 0 0 0 [(0, .ref p0), (1, .int p1), (2, .int p2), (3, .int p3), (4, .ref p4)] []
  refine r_aload C dL_lot_0 rfl ?_
  refine r_iconst (v := (0 : Int32)) C dL_lot_2 (by decide) ?_
  refine r_aload_n C dL_lot_3 rfl rfl ?_
  refine r_iload_n C dL_lot_4 rfl rfl ?_
  refine r_iload_n C dL_lot_5 rfl rfl ?_
  refine r_iload_n C dL_lot_6 rfl rfl ?_
  obtain ⟨g2, hw⟩ := hw
  refine r_callV (As := [.int p1, .int p2, .int p3]) (st := [.int (0 : Int32), .ref p4]) C (m_X5_lot hl hw) v_X5_lot w_340 K7 g2 (by decide) ob7 rfl ⟨leb rfl, leb rfl⟩ ⟨leb rfl, leb rfl⟩ rfl (leb rfl) dL_lot_7 (fun X h1 hx => by
      replace hw := hx
      clear hx
      rcases hw with ⟨rfl, hv⟩ | ⟨rfl, hv⟩ | ⟨rfl, hv⟩
      · replace hw := hv
        clear hv
        refine r_catch C [] (tE 0 12 15 13) [tE 0 12 19 15, tE 0 12 23 17] rfl (fun z hz => by cases hz) (by decide) (by decide) w_213 (by decide +kernel) (fun q9 => ?_)
        refine r_astore C dL_lot_15 (by decide) [] trivial ?_
        refine r_iconst (v := (1 : Int32)) C dL_lot_17 (by decide) ?_
        exact r_iret C dL_lot_18 (by decide) (by decide) ⟨_, rfl, hw⟩
      · replace hw := hv
        clear hv
        refine r_catch C [tE 0 12 15 13] (tE 0 12 19 15) [tE 0 12 23 17] rfl (fun z hz => by rcases List.mem_cons.mp hz with rfl | hz; exact ⟨by decide, _, w_213, by decide +kernel⟩; cases hz) (by decide) (by decide) w_214 (by decide +kernel) (fun q9 => ?_)
        refine r_astore C dL_lot_19 (by decide) [] trivial ?_
        refine r_iconst (v := (2 : Int32)) C dL_lot_21 (by decide) ?_
        exact r_iret C dL_lot_22 (by decide) (by decide) ⟨_, rfl, hw⟩
      · replace hw := hv
        clear hv
        refine r_catch C [tE 0 12 15 13, tE 0 12 19 15] (tE 0 12 23 17) [] rfl (fun z hz => by rcases List.mem_cons.mp hz with rfl | hz; exact ⟨by decide, _, w_213, by decide +kernel⟩; rcases List.mem_cons.mp hz with rfl | hz; exact ⟨by decide, _, w_214, by decide +kernel⟩; cases hz) (by decide) (by decide) w_215 (by decide +kernel) (fun q9 => ?_)
        refine r_astore C dL_lot_23 (by decide) [] trivial ?_
        refine r_iconst (v := (3 : Int32)) C dL_lot_25 (by decide) ?_
        exact r_iret C dL_lot_26 (by decide) (by decide) ⟨_, rfl, hw⟩) (kkI (K := fun hK sK => WS E p l e (rmOf 8 3 60 195) s m args below meth c 6 (vx_MQ below (qcP E (poI post)) (xcP E (pxN)) args s 3 60 (bsA E)) hK (0 + 3) (0 + 60) (7 + 3) [(0, .ref p0), (1, .int p1), (2, .int p2), (3, .int p3), (4, .ref p4)] sK) (fun x1 h1 hv => ?_))
  replace hw := hv
  clear hv
  refine r_i2l C dL_lot_10 ?_
  obtain ⟨g3, hw⟩ := hw
  obtain ⟨l4, hw⟩ := hw
  obtain ⟨h5, eh5⟩ : ∃ z, z = sJ h1 p4 0 x1.toInt64 := ⟨_, rfl⟩
  replace hw := hw h5 eh5
  refine s_J C g3 (j := 0) rfl (by decide) l4 dL_lot_11 eh5 ?_
  refine r_goto C 27 dL_lot_12 (by decide) ?_
  refine r_iconst (v := (0 : Int32)) C dL_lot_27 (by decide) ?_
  exact r_iret C dL_lot_28 (by decide) (by decide) ⟨_, rfl, hw⟩
theorem v_L_lot : MSW yL_lot cL_lot 6 (some .int) [(0, 12, 15, 13), (0, 12, 19, 15), (0, 12, 23, 17)] 5 := ⟨w_339, w_338, w_54, ⟨by decide +kernel, by decide +kernel, by decide +kernel⟩⟩

def wp_L_recall (h : Hp) (p0 : Nat) (p1 : Int32) (p2 : Nat) (post : Int32 → Hp → Prop) : Prop :=
(hT h p0 = 7 ∧
 wp_X5_recall h p0 p1 (fun x1 h1 =>
 (hT h1 p2 = 22 ∧
 (0 < hL h1 p2 ∧
 (∀ h5, h5 = sJ h1 p2 0 x1.toInt64 →
 post (0 : Int32) h5)))) (fun X h1 => (X = XB ∧ post (1 : Int32) h1) ∨ (X = XS ∧ post (2 : Int32) h1)))
set_option maxHeartbeats 4000000 in
set_option maxRecDepth 100000 in
theorem m_L_recall {E : Ev} {l : Launch} (hl : l.stackTraces = false) {h : Hp} {p0 : Nat} {p1 : Int32} {p2 : Nat} {post : Int32 → Hp → Prop} (hw : wp_L_recall h p0 p1 p2 post) : MTW E l yL_recall cL_recall 4 (some .int) [(0, 9, 12, 13), (0, 9, 15, 17)] 8 145 2 12 h [.ref p0, .int p1, .ref p2] (poI post) (pxN) := by
  refine MTW.of (by decide) hl (Nat.le_of_ble_eq_true rfl) (fun p e s m args below meth c C => ?_)
  unfold wp_L_recall at hw
  have C : CX E p l s m args meth c cL_recall 4 "TaktLineLaw" "recall" (some .int) (tableOf [(0, 9, 12, 13), (0, 9, 15, 17)]) := C
  show WS E p l e (rmOf 8 2 12 145) s m args below meth c 4 (vx_MQ below (qcP E (poI post)) (xcP E (pxN)) args s 2 12 (bsA E)) h 0 0 0 [(0, .ref p0), (1, .int p1), (2, .ref p2)] []
  refine r_aload_n C dL_recall_0 rfl rfl ?_
  refine r_iconst (v := (0 : Int32)) C dL_recall_1 (by decide) ?_
  refine r_aload_n C dL_recall_2 rfl rfl ?_
  refine r_iload_n C dL_recall_3 rfl rfl ?_
  obtain ⟨g2, hw⟩ := hw
  refine r_callV (As := [.int p1]) (st := [.int (0 : Int32), .ref p2]) C (m_X5_recall hl hw) v_X5_recall w_435 K7 g2 (by decide) ob7 rfl ⟨leb rfl, leb rfl⟩ ⟨leb rfl, leb rfl⟩ rfl (leb rfl) dL_recall_4 (fun X h1 hx => by
      replace hw := hx
      clear hx
      rcases hw with ⟨rfl, hv⟩ | ⟨rfl, hv⟩
      · replace hw := hv
        clear hv
        refine r_catch C [] (tE 0 9 12 13) [tE 0 9 15 17] rfl (fun z hz => by cases hz) (by decide) (by decide) w_213 (by decide +kernel) (fun q9 => ?_)
        refine r_astore_n C dL_recall_12 rfl (by decide) [] trivial ?_
        refine r_iconst (v := (1 : Int32)) C dL_recall_13 (by decide) ?_
        exact r_iret C dL_recall_14 (by decide) (by decide) ⟨_, rfl, hw⟩
      · replace hw := hv
        clear hv
        refine r_catch C [tE 0 9 12 13] (tE 0 9 15 17) [] rfl (fun z hz => by rcases List.mem_cons.mp hz with rfl | hz; exact ⟨by decide, _, w_213, by decide +kernel⟩; cases hz) (by decide) (by decide) w_215 (by decide +kernel) (fun q9 => ?_)
        refine r_astore_n C dL_recall_15 rfl (by decide) [] trivial ?_
        refine r_iconst (v := (2 : Int32)) C dL_recall_16 (by decide) ?_
        exact r_iret C dL_recall_17 (by decide) (by decide) ⟨_, rfl, hw⟩) (kkI (K := fun hK sK => WS E p l e (rmOf 8 2 12 145) s m args below meth c 4 (vx_MQ below (qcP E (poI post)) (xcP E (pxN)) args s 2 12 (bsA E)) hK (0 + 2) (0 + 12) (4 + 3) [(0, .ref p0), (1, .int p1), (2, .ref p2)] sK) (fun x1 h1 hv => ?_))
  replace hw := hv
  clear hv
  refine r_i2l C dL_recall_7 ?_
  obtain ⟨g3, hw⟩ := hw
  obtain ⟨l4, hw⟩ := hw
  obtain ⟨h5, eh5⟩ : ∃ z, z = sJ h1 p2 0 x1.toInt64 := ⟨_, rfl⟩
  replace hw := hw h5 eh5
  refine s_J C g3 (j := 0) rfl (by decide) l4 dL_recall_8 eh5 ?_
  refine r_goto C 18 dL_recall_9 (by decide) ?_
  refine r_iconst (v := (0 : Int32)) C dL_recall_18 (by decide) ?_
  exact r_iret C dL_recall_19 (by decide) (by decide) ⟨_, rfl, hw⟩
theorem v_L_recall : MSW yL_recall cL_recall 4 (some .int) [(0, 9, 12, 13), (0, 9, 15, 17)] 3 := ⟨w_434, w_433, w_54, ⟨by decide +kernel, by decide +kernel, by decide +kernel⟩⟩

def wp_L_units (h : Hp) (p0 : Nat) (p1 : Int32) (p2 : Nat) (post : Int32 → Hp → Prop) : Prop :=
(hT h p0 = 7 ∧
 wp_X5_units h p0 p1 (fun x1 =>
 (hT h p2 = 22 ∧
 (0 < hL h p2 ∧
 (∀ h5, h5 = sJ h p2 0 x1.toInt64 →
 post (0 : Int32) h5)))) (fun X => (X = XB ∧ post (1 : Int32) h)))
set_option maxHeartbeats 4000000 in
set_option maxRecDepth 100000 in
theorem m_L_units {E : Ev} {l : Launch} (hl : l.stackTraces = false) {h : Hp} {p0 : Nat} {p1 : Int32} {p2 : Nat} {post : Int32 → Hp → Prop} (hw : wp_L_units h p0 p1 p2 post) : MTW E l yL_units cL_units 4 (some .int) [(0, 9, 12, 13)] 8 144 1 6 h [.ref p0, .int p1, .ref p2] (poI post) (pxN) := by
  refine MTW.of (by decide) hl (Nat.le_of_ble_eq_true rfl) (fun p e s m args below meth c C => ?_)
  unfold wp_L_units at hw
  have C : CX E p l s m args meth c cL_units 4 "TaktLineLaw" "units" (some .int) (tableOf [(0, 9, 12, 13)]) := C
  show WS E p l e (rmOf 8 1 6 144) s m args below meth c 4 (vx_MQ below (qcP E (poI post)) (xcP E (pxN)) args s 1 6 (bsA E)) h 0 0 0 [(0, .ref p0), (1, .int p1), (2, .ref p2)] []
  refine r_aload_n C dL_units_0 rfl rfl ?_
  refine r_iconst (v := (0 : Int32)) C dL_units_1 (by decide) ?_
  refine r_aload_n C dL_units_2 rfl rfl ?_
  refine r_iload_n C dL_units_3 rfl rfl ?_
  obtain ⟨g2, hw⟩ := hw
  refine r_callV (As := [.int p1]) (st := [.int (0 : Int32), .ref p2]) C (m_X5_units hl hw) v_X5_units w_452 K7 g2 (by decide) ob7 rfl ⟨leb rfl, leb rfl⟩ ⟨leb rfl, leb rfl⟩ rfl (leb rfl) dL_units_4 (fun X h9 hx => by
      obtain ⟨hv, rfl⟩ := hx
      replace hw := hv
      clear hv
      rcases hw with ⟨rfl, hv⟩
      · replace hw := hv
        clear hv
        refine r_catch C [] (tE 0 9 12 13) [] rfl (fun z hz => by cases hz) (by decide) (by decide) w_213 (by decide +kernel) (fun q9 => ?_)
        refine r_astore_n C dL_units_12 rfl (by decide) [] trivial ?_
        refine r_iconst (v := (1 : Int32)) C dL_units_13 (by decide) ?_
        exact r_iret C dL_units_14 (by decide) (by decide) ⟨_, rfl, hw⟩) (kpI (K := fun hK sK => WS E p l e (rmOf 8 1 6 144) s m args below meth c 4 (vx_MQ below (qcP E (poI post)) (xcP E (pxN)) args s 1 6 (bsA E)) hK (0 + 1) (0 + 6) (4 + 3) [(0, .ref p0), (1, .int p1), (2, .ref p2)] sK) (fun x1 hv => ?_))
  replace hw := hv
  clear hv
  refine r_i2l C dL_units_7 ?_
  obtain ⟨g3, hw⟩ := hw
  obtain ⟨l4, hw⟩ := hw
  obtain ⟨h5, eh5⟩ : ∃ z, z = sJ h p2 0 x1.toInt64 := ⟨_, rfl⟩
  replace hw := hw h5 eh5
  refine s_J C g3 (j := 0) rfl (by decide) l4 dL_units_8 eh5 ?_
  refine r_goto C 15 dL_units_9 (by decide) ?_
  refine r_iconst (v := (0 : Int32)) C dL_units_15 (by decide) ?_
  exact r_iret C dL_units_16 (by decide) (by decide) ⟨_, rfl, hw⟩
theorem v_L_units : MSW yL_units cL_units 4 (some .int) [(0, 9, 12, 13)] 3 := ⟨w_451, w_450, w_54, ⟨by decide +kernel, by decide +kernel, by decide +kernel⟩⟩

def wp_L_order (dE : Nat) (h : Hp) (p0 : Nat) (p1 : Int32) (p2 : Nat) (post : Int32 → Hp → Prop) : Prop :=
(hT h p0 = 7 ∧
 wp_X5_order dE h p0 p1 (fun x1 h1 =>
 (hT h1 p2 = 22 ∧
 (0 < hL h1 p2 ∧
 (∀ h5, h5 = sJ h1 p2 0 x1.toInt64 →
 post (0 : Int32) h5)))) (fun X h1 => (X = XA ∧ post (1 : Int32) h1) ∨ (X = XS ∧ post (2 : Int32) h1)))
set_option maxHeartbeats 4000000 in
set_option maxRecDepth 100000 in
theorem m_L_order {E : Ev} {l : Launch} (hl : l.stackTraces = false) {h : Hp} {p0 : Nat} {p1 : Int32} {p2 : Nat} {post : Int32 → Hp → Prop} (hw : wp_L_order (eE E) h p0 p1 p2 post) : MTW E l yL_order cL_order 4 (some .int) [(0, 9, 12, 15), (0, 9, 15, 17)] 8 193 3 68 h [.ref p0, .int p1, .ref p2] (poI post) (pxN) := by
  refine MTW.of (by decide) hl (Nat.le_of_ble_eq_true rfl) (fun p e s m args below meth c C => ?_)
  unfold wp_L_order at hw
  have C : CX E p l s m args meth c cL_order 4 "TaktLineLaw" "order" (some .int) (tableOf [(0, 9, 12, 15), (0, 9, 15, 17)]) := C
  show WS E p l e (rmOf 8 3 68 193) s m args below meth c 4 (vx_MQ below (qcP E (poI post)) (xcP E (pxN)) args s 3 68 (bsA E)) h 0 0 0 [(0, .ref p0), (1, .int p1), (2, .ref p2)] []
  refine r_aload_n C dL_order_0 rfl rfl ?_
  refine r_iconst (v := (0 : Int32)) C dL_order_1 (by decide) ?_
  refine r_aload_n C dL_order_2 rfl rfl ?_
  refine r_iload_n C dL_order_3 rfl rfl ?_
  obtain ⟨g2, hw⟩ := hw
  refine r_callV (As := [.int p1]) (st := [.int (0 : Int32), .ref p2]) C (m_X5_order hl hw) v_X5_order w_459 K7 g2 (by decide) ob7 rfl ⟨leb rfl, leb rfl⟩ ⟨leb rfl, leb rfl⟩ rfl (leb rfl) dL_order_4 (fun X h1 hx => by
      replace hw := hx
      clear hx
      rcases hw with ⟨rfl, hv⟩ | ⟨rfl, hv⟩
      · replace hw := hv
        clear hv
        refine r_catch C [] (tE 0 9 12 15) [tE 0 9 15 17] rfl (fun z hz => by cases hz) (by decide) (by decide) w_214 (by decide +kernel) (fun q9 => ?_)
        refine r_astore_n C dL_order_12 rfl (by decide) [] trivial ?_
        refine r_iconst (v := (1 : Int32)) C dL_order_13 (by decide) ?_
        exact r_iret C dL_order_14 (by decide) (by decide) ⟨_, rfl, hw⟩
      · replace hw := hv
        clear hv
        refine r_catch C [tE 0 9 12 15] (tE 0 9 15 17) [] rfl (fun z hz => by rcases List.mem_cons.mp hz with rfl | hz; exact ⟨by decide, _, w_214, by decide +kernel⟩; cases hz) (by decide) (by decide) w_215 (by decide +kernel) (fun q9 => ?_)
        refine r_astore_n C dL_order_15 rfl (by decide) [] trivial ?_
        refine r_iconst (v := (2 : Int32)) C dL_order_16 (by decide) ?_
        exact r_iret C dL_order_17 (by decide) (by decide) ⟨_, rfl, hw⟩) (kkI (K := fun hK sK => WS E p l e (rmOf 8 3 68 193) s m args below meth c 4 (vx_MQ below (qcP E (poI post)) (xcP E (pxN)) args s 3 68 (bsA E)) hK (0 + 3) (0 + 68) (4 + 3) [(0, .ref p0), (1, .int p1), (2, .ref p2)] sK) (fun x1 h1 hv => ?_))
  replace hw := hv
  clear hv
  refine r_i2l C dL_order_7 ?_
  obtain ⟨g3, hw⟩ := hw
  obtain ⟨l4, hw⟩ := hw
  obtain ⟨h5, eh5⟩ : ∃ z, z = sJ h1 p2 0 x1.toInt64 := ⟨_, rfl⟩
  replace hw := hw h5 eh5
  refine s_J C g3 (j := 0) rfl (by decide) l4 dL_order_8 eh5 ?_
  refine r_goto C 18 dL_order_9 (by decide) ?_
  refine r_iconst (v := (0 : Int32)) C dL_order_18 (by decide) ?_
  exact r_iret C dL_order_19 (by decide) (by decide) ⟨_, rfl, hw⟩
theorem v_L_order : MSW yL_order cL_order 4 (some .int) [(0, 9, 12, 15), (0, 9, 15, 17)] 3 := ⟨w_458, w_457, w_54, ⟨by decide +kernel, by decide +kernel, by decide +kernel⟩⟩

def wp_L_takt (dE : Nat) (mc ms : Nat) (h : Hp) (p0 : Nat) (p1 : Int32) (p2 : Nat) (post : Int32 → Hp → Prop) : Prop :=
(∃ k1 n1 : Nat,
 (0 + k1 ≤ mc ∧
 (0 + n1 ≤ ms ∧
 (hT h p0 = 7 ∧
 wp_X5_takt dE k1 n1 h p0 p1 (fun x1 h1 =>
 (hT h1 p2 = 22 ∧
 (0 < hL h1 p2 ∧
 (∀ h6, h6 = sJ h1 p2 0 x1.toInt64 →
 post (0 : Int32) h6)))) (fun X h1 => (X = XA ∧ post (1 : Int32) h1))))))
set_option maxHeartbeats 4000000 in
set_option maxRecDepth 100000 in
theorem m_L_takt {E : Ev} {l : Launch} (hl : l.stackTraces = false) {mc ms : Nat} {h : Hp} {p0 : Nat} {p1 : Int32} {p2 : Nat} {post : Int32 → Hp → Prop} (hw : wp_L_takt (eE E) mc ms h p0 p1 p2 post) : MTW E l yL_takt cL_takt 4 (some .int) [(0, 9, 12, 15)] 11 262 mc ms h [.ref p0, .int p1, .ref p2] (poI post) (pxN) := by
  refine MTW.of (by decide) hl (Nat.le_of_ble_eq_true rfl) (fun p e s m args below meth c C => ?_)
  unfold wp_L_takt at hw
  have C : CX E p l s m args meth c cL_takt 4 "TaktLineLaw" "takt" (some .int) (tableOf [(0, 9, 12, 15)]) := C
  show WS E p l e (rmOf 11 mc ms 262) s m args below meth c 4 (vx_MQ below (qcP E (poI post)) (xcP E (pxN)) args s mc ms (bsA E)) h 0 0 0 [(0, .ref p0), (1, .int p1), (2, .ref p2)] []
  refine r_aload_n C dL_takt_0 rfl rfl ?_
  refine r_iconst (v := (0 : Int32)) C dL_takt_1 (by decide) ?_
  refine r_aload_n C dL_takt_2 rfl rfl ?_
  refine r_iload_n C dL_takt_3 rfl rfl ?_
  obtain ⟨k1, n1, hw⟩ := hw
  obtain ⟨b2, d2, hw⟩ := hw
  obtain ⟨g3, hw⟩ := hw
  refine r_callV (As := [.int p1]) (st := [.int (0 : Int32), .ref p2]) C (m_X5_takt hl hw) v_X5_takt w_512 K7 g3 (by decide) ob7 rfl ⟨leb rfl, leb rfl⟩ ⟨b2, d2⟩ rfl (leb rfl) dL_takt_4 (fun X h1 hx => by
      replace hw := hx
      clear hx
      rcases hw with ⟨rfl, hv⟩
      · replace hw := hv
        clear hv
        refine r_catch C [] (tE 0 9 12 15) [] rfl (fun z hz => by cases hz) (by decide) (by decide) w_214 (by decide +kernel) (fun q9 => ?_)
        refine r_astore_n C dL_takt_12 rfl (by decide) [] trivial ?_
        refine r_iconst (v := (1 : Int32)) C dL_takt_13 (by decide) ?_
        exact r_iret C dL_takt_14 b2 d2 ⟨_, rfl, hw⟩) (kkI (K := fun hK sK => WS E p l e (rmOf 11 mc ms 262) s m args below meth c 4 (vx_MQ below (qcP E (poI post)) (xcP E (pxN)) args s mc ms (bsA E)) hK (0 + k1) (0 + n1) (4 + 3) [(0, .ref p0), (1, .int p1), (2, .ref p2)] sK) (fun x1 h1 hv => ?_))
  replace hw := hv
  clear hv
  refine r_i2l C dL_takt_7 ?_
  obtain ⟨g4, hw⟩ := hw
  obtain ⟨l5, hw⟩ := hw
  obtain ⟨h6, eh6⟩ : ∃ z, z = sJ h1 p2 0 x1.toInt64 := ⟨_, rfl⟩
  replace hw := hw h6 eh6
  refine s_J C g4 (j := 0) rfl (by decide) l5 dL_takt_8 eh6 ?_
  refine r_goto C 15 dL_takt_9 (by decide) ?_
  refine r_iconst (v := (0 : Int32)) C dL_takt_15 (by decide) ?_
  exact r_iret C dL_takt_16 b2 d2 ⟨_, rfl, hw⟩
theorem v_L_takt : MSW yL_takt cL_takt 4 (some .int) [(0, 9, 12, 15)] 3 := ⟨w_511, w_510, w_54, ⟨by decide +kernel, by decide +kernel, by decide +kernel⟩⟩

def wp_L_fault (h : Hp) (p0 : Nat) (p1 : Int32) (p2 : Nat) (post : Int32 → Hp → Prop) : Prop :=
(hT h p0 = 7 ∧
 wp_X5_fault h p0 p1 (fun x1 h1 =>
 (∀ J15 : Int64 → Prop, (∀ (t15_0 : Int64), (hT h1 p2 = 22 ∧
 (0 < hL h1 p2 ∧
 (∀ h5, h5 = sJ h1 p2 0 t15_0 →
 post (0 : Int32) h5))) → J15 t15_0) →
 ((x1 = 0 →
 J15 (0 : Int64)) ∧ (¬ (x1 = 0) →
 J15 (1 : Int64))))) (fun X h1 => (X = XB ∧ post (1 : Int32) h1) ∨ (X = XS ∧ post (2 : Int32) h1)))
set_option maxHeartbeats 4000000 in
set_option maxRecDepth 100000 in
theorem m_L_fault {E : Ev} {l : Launch} (hl : l.stackTraces = false) {h : Hp} {p0 : Nat} {p1 : Int32} {p2 : Nat} {post : Int32 → Hp → Prop} (hw : wp_L_fault h p0 p1 p2 post) : MTW E l yL_fault cL_fault 4 (some .int) [(0, 16, 19, 13), (0, 16, 22, 17)] 9 167 2 12 h [.ref p0, .int p1, .ref p2] (poI post) (pxN) := by
  refine MTW.of (by decide) hl (Nat.le_of_ble_eq_true rfl) (fun p e s m args below meth c C => ?_)
  unfold wp_L_fault at hw
  have C : CX E p l s m args meth c cL_fault 4 "TaktLineLaw" "fault" (some .int) (tableOf [(0, 16, 19, 13), (0, 16, 22, 17)]) := C
  show WS E p l e (rmOf 9 2 12 167) s m args below meth c 4 (vx_MQ below (qcP E (poI post)) (xcP E (pxN)) args s 2 12 (bsA E)) h 0 0 0 [(0, .ref p0), (1, .int p1), (2, .ref p2)] []
  refine r_aload_n C dL_fault_0 rfl rfl ?_
  refine r_iconst (v := (0 : Int32)) C dL_fault_1 (by decide) ?_
  refine r_aload_n C dL_fault_2 rfl rfl ?_
  refine r_iload_n C dL_fault_3 rfl rfl ?_
  obtain ⟨g2, hw⟩ := hw
  refine r_callV (As := [.int p1]) (st := [.int (0 : Int32), .ref p2]) C (m_X5_fault hl hw) v_X5_fault w_659 K7 g2 (by decide) ob7 rfl ⟨leb rfl, leb rfl⟩ ⟨leb rfl, leb rfl⟩ rfl (leb rfl) dL_fault_4 (fun X h1 hx => by
      replace hw := hx
      clear hx
      rcases hw with ⟨rfl, hv⟩ | ⟨rfl, hv⟩
      · replace hw := hv
        clear hv
        refine r_catch C [] (tE 0 16 19 13) [tE 0 16 22 17] rfl (fun z hz => by cases hz) (by decide) (by decide) w_213 (by decide +kernel) (fun q9 => ?_)
        refine r_astore_n C dL_fault_19 rfl (by decide) [] trivial ?_
        refine r_iconst (v := (1 : Int32)) C dL_fault_20 (by decide) ?_
        exact r_iret C dL_fault_21 (by decide) (by decide) ⟨_, rfl, hw⟩
      · replace hw := hv
        clear hv
        refine r_catch C [tE 0 16 19 13] (tE 0 16 22 17) [] rfl (fun z hz => by rcases List.mem_cons.mp hz with rfl | hz; exact ⟨by decide, _, w_213, by decide +kernel⟩; cases hz) (by decide) (by decide) w_215 (by decide +kernel) (fun q9 => ?_)
        refine r_astore_n C dL_fault_22 rfl (by decide) [] trivial ?_
        refine r_iconst (v := (2 : Int32)) C dL_fault_23 (by decide) ?_
        exact r_iret C dL_fault_24 (by decide) (by decide) ⟨_, rfl, hw⟩) (kkI (K := fun hK sK => WS E p l e (rmOf 9 2 12 167) s m args below meth c 4 (vx_MQ below (qcP E (poI post)) (xcP E (pxN)) args s 2 12 (bsA E)) hK (0 + 2) (0 + 12) (4 + 3) [(0, .ref p0), (1, .int p1), (2, .ref p2)] sK) (fun x1 h1 hv => ?_))
  replace hw := hv
  clear hv
  replace hw := hw (fun (t15_0 : Int64) => WS E p l e (rmOf 9 2 12 167) s m args below meth c 4 (vx_MQ below (qcP E (poI post)) (xcP E (pxN)) args s 2 12 (bsA E)) h1 2 12 15 [] [.long t15_0, .int (0 : Int32), .ref p2]) (by
    intro t15_0 hv
    replace hw := hv
    clear hv
    obtain ⟨g3, hw⟩ := hw
    obtain ⟨l4, hw⟩ := hw
    obtain ⟨h5, eh5⟩ : ∃ z, z = sJ h1 p2 0 t15_0 := ⟨_, rfl⟩
    replace hw := hw h5 eh5
    refine s_J C g3 (j := 0) rfl (by decide) l4 dL_fault_15 eh5 ?_
    refine r_goto C 25 dL_fault_16 (by decide) ?_
    refine r_iconst (v := (0 : Int32)) C dL_fault_25 (by decide) ?_
    exact r_iret C dL_fault_26 (by decide) (by decide) ⟨_, rfl, hw⟩
    )
  refine r_if_eq C 14 dL_fault_7 (by decide) (fun z6 => ?_) (fun z6 => ?_)
  · replace hw := hw.1 z6
    refine r_lconst (v := 0) C dL_fault_14 (by decide) ?_
    exact (r_subk hw trivial)
  · replace hw := hw.2 z6
    refine r_lconst (v := 1) C dL_fault_10 (by decide) ?_
    refine r_goto C 15 dL_fault_11 (by decide) ?_
    exact (r_subk hw trivial)
theorem v_L_fault : MSW yL_fault cL_fault 4 (some .int) [(0, 16, 19, 13), (0, 16, 22, 17)] 3 := ⟨w_658, w_657, w_54, ⟨by decide +kernel, by decide +kernel, by decide +kernel⟩⟩

def wp_L_whereIs (h : Hp) (p0 : Nat) (p1 : Int32) (p2 : Nat) (post : Int32 → Hp → Prop) : Prop :=
(hT h p0 = 7 ∧
 wp_X5_whereIs h p0 p1 (fun x1 =>
 (hT h p2 = 22 ∧
 (0 < hL h p2 ∧
 (∀ h5, h5 = sJ h p2 0 x1.toInt64 →
 post (0 : Int32) h5)))) (fun X => (X = XB ∧ post (1 : Int32) h)))
set_option maxHeartbeats 4000000 in
set_option maxRecDepth 100000 in
theorem m_L_whereIs {E : Ev} {l : Launch} (hl : l.stackTraces = false) {h : Hp} {p0 : Nat} {p1 : Int32} {p2 : Nat} {post : Int32 → Hp → Prop} (hw : wp_L_whereIs h p0 p1 p2 post) : MTW E l yL_whereIs cL_whereIs 4 (some .int) [(0, 9, 12, 13)] 9 165 1 6 h [.ref p0, .int p1, .ref p2] (poI post) (pxN) := by
  refine MTW.of (by decide) hl (Nat.le_of_ble_eq_true rfl) (fun p e s m args below meth c C => ?_)
  unfold wp_L_whereIs at hw
  have C : CX E p l s m args meth c cL_whereIs 4 "TaktLineLaw" "whereIs" (some .int) (tableOf [(0, 9, 12, 13)]) := C
  show WS E p l e (rmOf 9 1 6 165) s m args below meth c 4 (vx_MQ below (qcP E (poI post)) (xcP E (pxN)) args s 1 6 (bsA E)) h 0 0 0 [(0, .ref p0), (1, .int p1), (2, .ref p2)] []
  refine r_aload_n C dL_whereIs_0 rfl rfl ?_
  refine r_iconst (v := (0 : Int32)) C dL_whereIs_1 (by decide) ?_
  refine r_aload_n C dL_whereIs_2 rfl rfl ?_
  refine r_iload_n C dL_whereIs_3 rfl rfl ?_
  obtain ⟨g2, hw⟩ := hw
  refine r_callV (As := [.int p1]) (st := [.int (0 : Int32), .ref p2]) C (m_X5_whereIs hl hw) v_X5_whereIs w_676 K7 g2 (by decide) ob7 rfl ⟨leb rfl, leb rfl⟩ ⟨leb rfl, leb rfl⟩ rfl (leb rfl) dL_whereIs_4 (fun X h9 hx => by
      obtain ⟨hv, rfl⟩ := hx
      replace hw := hv
      clear hv
      rcases hw with ⟨rfl, hv⟩
      · replace hw := hv
        clear hv
        refine r_catch C [] (tE 0 9 12 13) [] rfl (fun z hz => by cases hz) (by decide) (by decide) w_213 (by decide +kernel) (fun q9 => ?_)
        refine r_astore_n C dL_whereIs_12 rfl (by decide) [] trivial ?_
        refine r_iconst (v := (1 : Int32)) C dL_whereIs_13 (by decide) ?_
        exact r_iret C dL_whereIs_14 (by decide) (by decide) ⟨_, rfl, hw⟩) (kpI (K := fun hK sK => WS E p l e (rmOf 9 1 6 165) s m args below meth c 4 (vx_MQ below (qcP E (poI post)) (xcP E (pxN)) args s 1 6 (bsA E)) hK (0 + 1) (0 + 6) (4 + 3) [(0, .ref p0), (1, .int p1), (2, .ref p2)] sK) (fun x1 hv => ?_))
  replace hw := hv
  clear hv
  refine r_i2l C dL_whereIs_7 ?_
  obtain ⟨g3, hw⟩ := hw
  obtain ⟨l4, hw⟩ := hw
  obtain ⟨h5, eh5⟩ : ∃ z, z = sJ h p2 0 x1.toInt64 := ⟨_, rfl⟩
  replace hw := hw h5 eh5
  refine s_J C g3 (j := 0) rfl (by decide) l4 dL_whereIs_8 eh5 ?_
  refine r_goto C 15 dL_whereIs_9 (by decide) ?_
  refine r_iconst (v := (0 : Int32)) C dL_whereIs_15 (by decide) ?_
  exact r_iret C dL_whereIs_16 (by decide) (by decide) ⟨_, rfl, hw⟩
theorem v_L_whereIs : MSW yL_whereIs cL_whereIs 4 (some .int) [(0, 9, 12, 13)] 3 := ⟨w_675, w_674, w_54, ⟨by decide +kernel, by decide +kernel, by decide +kernel⟩⟩

def wp_L_stationOf (h : Hp) (p0 : Nat) (p1 : Int32) (p2 : Nat) (post : Int32 → Hp → Prop) : Prop :=
(hT h p0 = 7 ∧
 wp_X5_stationOf h p0 p1 (fun x1 =>
 (hT h p2 = 22 ∧
 (0 < hL h p2 ∧
 (∀ h5, h5 = sJ h p2 0 x1.toInt64 →
 post (0 : Int32) h5)))) (fun X => (X = XB ∧ post (1 : Int32) h)))
set_option maxHeartbeats 4000000 in
set_option maxRecDepth 100000 in
theorem m_L_stationOf {E : Ev} {l : Launch} (hl : l.stackTraces = false) {h : Hp} {p0 : Nat} {p1 : Int32} {p2 : Nat} {post : Int32 → Hp → Prop} (hw : wp_L_stationOf h p0 p1 p2 post) : MTW E l yL_stationOf cL_stationOf 4 (some .int) [(0, 9, 12, 13)] 9 165 1 6 h [.ref p0, .int p1, .ref p2] (poI post) (pxN) := by
  refine MTW.of (by decide) hl (Nat.le_of_ble_eq_true rfl) (fun p e s m args below meth c C => ?_)
  unfold wp_L_stationOf at hw
  have C : CX E p l s m args meth c cL_stationOf 4 "TaktLineLaw" "stationOf" (some .int) (tableOf [(0, 9, 12, 13)]) := C
  show WS E p l e (rmOf 9 1 6 165) s m args below meth c 4 (vx_MQ below (qcP E (poI post)) (xcP E (pxN)) args s 1 6 (bsA E)) h 0 0 0 [(0, .ref p0), (1, .int p1), (2, .ref p2)] []
  refine r_aload_n C dL_stationOf_0 rfl rfl ?_
  refine r_iconst (v := (0 : Int32)) C dL_stationOf_1 (by decide) ?_
  refine r_aload_n C dL_stationOf_2 rfl rfl ?_
  refine r_iload_n C dL_stationOf_3 rfl rfl ?_
  obtain ⟨g2, hw⟩ := hw
  refine r_callV (As := [.int p1]) (st := [.int (0 : Int32), .ref p2]) C (m_X5_stationOf hl hw) v_X5_stationOf w_683 K7 g2 (by decide) ob7 rfl ⟨leb rfl, leb rfl⟩ ⟨leb rfl, leb rfl⟩ rfl (leb rfl) dL_stationOf_4 (fun X h9 hx => by
      obtain ⟨hv, rfl⟩ := hx
      replace hw := hv
      clear hv
      rcases hw with ⟨rfl, hv⟩
      · replace hw := hv
        clear hv
        refine r_catch C [] (tE 0 9 12 13) [] rfl (fun z hz => by cases hz) (by decide) (by decide) w_213 (by decide +kernel) (fun q9 => ?_)
        refine r_astore_n C dL_stationOf_12 rfl (by decide) [] trivial ?_
        refine r_iconst (v := (1 : Int32)) C dL_stationOf_13 (by decide) ?_
        exact r_iret C dL_stationOf_14 (by decide) (by decide) ⟨_, rfl, hw⟩) (kpI (K := fun hK sK => WS E p l e (rmOf 9 1 6 165) s m args below meth c 4 (vx_MQ below (qcP E (poI post)) (xcP E (pxN)) args s 1 6 (bsA E)) hK (0 + 1) (0 + 6) (4 + 3) [(0, .ref p0), (1, .int p1), (2, .ref p2)] sK) (fun x1 hv => ?_))
  replace hw := hv
  clear hv
  refine r_i2l C dL_stationOf_7 ?_
  obtain ⟨g3, hw⟩ := hw
  obtain ⟨l4, hw⟩ := hw
  obtain ⟨h5, eh5⟩ : ∃ z, z = sJ h p2 0 x1.toInt64 := ⟨_, rfl⟩
  replace hw := hw h5 eh5
  refine s_J C g3 (j := 0) rfl (by decide) l4 dL_stationOf_8 eh5 ?_
  refine r_goto C 15 dL_stationOf_9 (by decide) ?_
  refine r_iconst (v := (0 : Int32)) C dL_stationOf_15 (by decide) ?_
  exact r_iret C dL_stationOf_16 (by decide) (by decide) ⟨_, rfl, hw⟩
theorem v_L_stationOf : MSW yL_stationOf cL_stationOf 4 (some .int) [(0, 9, 12, 13)] 3 := ⟨w_682, w_681, w_54, ⟨by decide +kernel, by decide +kernel, by decide +kernel⟩⟩

def wp_L_carAt (h : Hp) (p0 : Nat) (p1 : Int32) (p2 : Nat) (post : Int32 → Hp → Prop) : Prop :=
(hT h p0 = 7 ∧
 wp_X5_carAt h p0 p1 (fun x1 =>
 (hT h p2 = 22 ∧
 (0 < hL h p2 ∧
 (∀ h5, h5 = sJ h p2 0 x1.toInt64 →
 post (0 : Int32) h5)))) (fun X => (X = XA ∧ post (1 : Int32) h)))
set_option maxHeartbeats 4000000 in
set_option maxRecDepth 100000 in
theorem m_L_carAt {E : Ev} {l : Launch} (hl : l.stackTraces = false) {h : Hp} {p0 : Nat} {p1 : Int32} {p2 : Nat} {post : Int32 → Hp → Prop} (hw : wp_L_carAt h p0 p1 p2 post) : MTW E l yL_carAt cL_carAt 4 (some .int) [(0, 9, 12, 15)] 7 124 1 6 h [.ref p0, .int p1, .ref p2] (poI post) (pxN) := by
  refine MTW.of (by decide) hl (Nat.le_of_ble_eq_true rfl) (fun p e s m args below meth c C => ?_)
  unfold wp_L_carAt at hw
  have C : CX E p l s m args meth c cL_carAt 4 "TaktLineLaw" "carAt" (some .int) (tableOf [(0, 9, 12, 15)]) := C
  show WS E p l e (rmOf 7 1 6 124) s m args below meth c 4 (vx_MQ below (qcP E (poI post)) (xcP E (pxN)) args s 1 6 (bsA E)) h 0 0 0 [(0, .ref p0), (1, .int p1), (2, .ref p2)] []
  refine r_aload_n C dL_carAt_0 rfl rfl ?_
  refine r_iconst (v := (0 : Int32)) C dL_carAt_1 (by decide) ?_
  refine r_aload_n C dL_carAt_2 rfl rfl ?_
  refine r_iload_n C dL_carAt_3 rfl rfl ?_
  obtain ⟨g2, hw⟩ := hw
  refine r_callV (As := [.int p1]) (st := [.int (0 : Int32), .ref p2]) C (m_X5_carAt hl hw) v_X5_carAt w_690 K7 g2 (by decide) ob7 rfl ⟨leb rfl, leb rfl⟩ ⟨leb rfl, leb rfl⟩ rfl (leb rfl) dL_carAt_4 (fun X h9 hx => by
      obtain ⟨hv, rfl⟩ := hx
      replace hw := hv
      clear hv
      rcases hw with ⟨rfl, hv⟩
      · replace hw := hv
        clear hv
        refine r_catch C [] (tE 0 9 12 15) [] rfl (fun z hz => by cases hz) (by decide) (by decide) w_214 (by decide +kernel) (fun q9 => ?_)
        refine r_astore_n C dL_carAt_12 rfl (by decide) [] trivial ?_
        refine r_iconst (v := (1 : Int32)) C dL_carAt_13 (by decide) ?_
        exact r_iret C dL_carAt_14 (by decide) (by decide) ⟨_, rfl, hw⟩) (kpI (K := fun hK sK => WS E p l e (rmOf 7 1 6 124) s m args below meth c 4 (vx_MQ below (qcP E (poI post)) (xcP E (pxN)) args s 1 6 (bsA E)) hK (0 + 1) (0 + 6) (4 + 3) [(0, .ref p0), (1, .int p1), (2, .ref p2)] sK) (fun x1 hv => ?_))
  replace hw := hv
  clear hv
  refine r_i2l C dL_carAt_7 ?_
  obtain ⟨g3, hw⟩ := hw
  obtain ⟨l4, hw⟩ := hw
  obtain ⟨h5, eh5⟩ : ∃ z, z = sJ h p2 0 x1.toInt64 := ⟨_, rfl⟩
  replace hw := hw h5 eh5
  refine s_J C g3 (j := 0) rfl (by decide) l4 dL_carAt_8 eh5 ?_
  refine r_goto C 15 dL_carAt_9 (by decide) ?_
  refine r_iconst (v := (0 : Int32)) C dL_carAt_15 (by decide) ?_
  exact r_iret C dL_carAt_16 (by decide) (by decide) ⟨_, rfl, hw⟩
theorem v_L_carAt : MSW yL_carAt cL_carAt 4 (some .int) [(0, 9, 12, 15)] 3 := ⟨w_689, w_688, w_54, ⟨by decide +kernel, by decide +kernel, by decide +kernel⟩⟩

def wp_L_needs (h : Hp) (p0 : Nat) (p1 : Int32) (p2 : Nat) (post : Int32 → Hp → Prop) : Prop :=
(hT h p0 = 7 ∧
 wp_X5_needs h p0 p1 (fun x1 =>
 (hT h p2 = 22 ∧
 (0 < hL h p2 ∧
 (∀ h5, h5 = sJ h p2 0 x1.toInt64 →
 post (0 : Int32) h5)))) (fun X => (X = XB ∧ post (1 : Int32) h)))
set_option maxHeartbeats 4000000 in
set_option maxRecDepth 100000 in
theorem m_L_needs {E : Ev} {l : Launch} (hl : l.stackTraces = false) {h : Hp} {p0 : Nat} {p1 : Int32} {p2 : Nat} {post : Int32 → Hp → Prop} (hw : wp_L_needs h p0 p1 p2 post) : MTW E l yL_needs cL_needs 4 (some .int) [(0, 9, 12, 13)] 9 165 1 6 h [.ref p0, .int p1, .ref p2] (poI post) (pxN) := by
  refine MTW.of (by decide) hl (Nat.le_of_ble_eq_true rfl) (fun p e s m args below meth c C => ?_)
  unfold wp_L_needs at hw
  have C : CX E p l s m args meth c cL_needs 4 "TaktLineLaw" "needs" (some .int) (tableOf [(0, 9, 12, 13)]) := C
  show WS E p l e (rmOf 9 1 6 165) s m args below meth c 4 (vx_MQ below (qcP E (poI post)) (xcP E (pxN)) args s 1 6 (bsA E)) h 0 0 0 [(0, .ref p0), (1, .int p1), (2, .ref p2)] []
  refine r_aload_n C dL_needs_0 rfl rfl ?_
  refine r_iconst (v := (0 : Int32)) C dL_needs_1 (by decide) ?_
  refine r_aload_n C dL_needs_2 rfl rfl ?_
  refine r_iload_n C dL_needs_3 rfl rfl ?_
  obtain ⟨g2, hw⟩ := hw
  refine r_callV (As := [.int p1]) (st := [.int (0 : Int32), .ref p2]) C (m_X5_needs hl hw) v_X5_needs w_698 K7 g2 (by decide) ob7 rfl ⟨leb rfl, leb rfl⟩ ⟨leb rfl, leb rfl⟩ rfl (leb rfl) dL_needs_4 (fun X h9 hx => by
      obtain ⟨hv, rfl⟩ := hx
      replace hw := hv
      clear hv
      rcases hw with ⟨rfl, hv⟩
      · replace hw := hv
        clear hv
        refine r_catch C [] (tE 0 9 12 13) [] rfl (fun z hz => by cases hz) (by decide) (by decide) w_213 (by decide +kernel) (fun q9 => ?_)
        refine r_astore_n C dL_needs_12 rfl (by decide) [] trivial ?_
        refine r_iconst (v := (1 : Int32)) C dL_needs_13 (by decide) ?_
        exact r_iret C dL_needs_14 (by decide) (by decide) ⟨_, rfl, hw⟩) (kpI (K := fun hK sK => WS E p l e (rmOf 9 1 6 165) s m args below meth c 4 (vx_MQ below (qcP E (poI post)) (xcP E (pxN)) args s 1 6 (bsA E)) hK (0 + 1) (0 + 6) (4 + 3) [(0, .ref p0), (1, .int p1), (2, .ref p2)] sK) (fun x1 hv => ?_))
  replace hw := hv
  clear hv
  refine r_i2l C dL_needs_7 ?_
  obtain ⟨g3, hw⟩ := hw
  obtain ⟨l4, hw⟩ := hw
  obtain ⟨h5, eh5⟩ : ∃ z, z = sJ h p2 0 x1.toInt64 := ⟨_, rfl⟩
  replace hw := hw h5 eh5
  refine s_J C g3 (j := 0) rfl (by decide) l4 dL_needs_8 eh5 ?_
  refine r_goto C 15 dL_needs_9 (by decide) ?_
  refine r_iconst (v := (0 : Int32)) C dL_needs_15 (by decide) ?_
  exact r_iret C dL_needs_16 (by decide) (by decide) ⟨_, rfl, hw⟩
theorem v_L_needs : MSW yL_needs cL_needs 4 (some .int) [(0, 9, 12, 13)] 3 := ⟨w_697, w_696, w_54, ⟨by decide +kernel, by decide +kernel, by decide +kernel⟩⟩

def wp_L_lacks (h : Hp) (p0 : Nat) (p1 : Int32) (p2 : Nat) (post : Int32 → Hp → Prop) : Prop :=
(hT h p0 = 7 ∧
 wp_X5_lacks h p0 p1 (fun x1 =>
 (hT h p2 = 22 ∧
 (0 < hL h p2 ∧
 (∀ h5, h5 = sJ h p2 0 x1.toInt64 →
 post (0 : Int32) h5)))) (fun X => (X = XB ∧ post (1 : Int32) h)))
set_option maxHeartbeats 4000000 in
set_option maxRecDepth 100000 in
theorem m_L_lacks {E : Ev} {l : Launch} (hl : l.stackTraces = false) {h : Hp} {p0 : Nat} {p1 : Int32} {p2 : Nat} {post : Int32 → Hp → Prop} (hw : wp_L_lacks h p0 p1 p2 post) : MTW E l yL_lacks cL_lacks 4 (some .int) [(0, 9, 12, 13)] 9 165 1 6 h [.ref p0, .int p1, .ref p2] (poI post) (pxN) := by
  refine MTW.of (by decide) hl (Nat.le_of_ble_eq_true rfl) (fun p e s m args below meth c C => ?_)
  unfold wp_L_lacks at hw
  have C : CX E p l s m args meth c cL_lacks 4 "TaktLineLaw" "lacks" (some .int) (tableOf [(0, 9, 12, 13)]) := C
  show WS E p l e (rmOf 9 1 6 165) s m args below meth c 4 (vx_MQ below (qcP E (poI post)) (xcP E (pxN)) args s 1 6 (bsA E)) h 0 0 0 [(0, .ref p0), (1, .int p1), (2, .ref p2)] []
  refine r_aload_n C dL_lacks_0 rfl rfl ?_
  refine r_iconst (v := (0 : Int32)) C dL_lacks_1 (by decide) ?_
  refine r_aload_n C dL_lacks_2 rfl rfl ?_
  refine r_iload_n C dL_lacks_3 rfl rfl ?_
  obtain ⟨g2, hw⟩ := hw
  refine r_callV (As := [.int p1]) (st := [.int (0 : Int32), .ref p2]) C (m_X5_lacks hl hw) v_X5_lacks w_709 K7 g2 (by decide) ob7 rfl ⟨leb rfl, leb rfl⟩ ⟨leb rfl, leb rfl⟩ rfl (leb rfl) dL_lacks_4 (fun X h9 hx => by
      obtain ⟨hv, rfl⟩ := hx
      replace hw := hv
      clear hv
      rcases hw with ⟨rfl, hv⟩
      · replace hw := hv
        clear hv
        refine r_catch C [] (tE 0 9 12 13) [] rfl (fun z hz => by cases hz) (by decide) (by decide) w_213 (by decide +kernel) (fun q9 => ?_)
        refine r_astore_n C dL_lacks_12 rfl (by decide) [] trivial ?_
        refine r_iconst (v := (1 : Int32)) C dL_lacks_13 (by decide) ?_
        exact r_iret C dL_lacks_14 (by decide) (by decide) ⟨_, rfl, hw⟩) (kpI (K := fun hK sK => WS E p l e (rmOf 9 1 6 165) s m args below meth c 4 (vx_MQ below (qcP E (poI post)) (xcP E (pxN)) args s 1 6 (bsA E)) hK (0 + 1) (0 + 6) (4 + 3) [(0, .ref p0), (1, .int p1), (2, .ref p2)] sK) (fun x1 hv => ?_))
  replace hw := hv
  clear hv
  refine r_i2l C dL_lacks_7 ?_
  obtain ⟨g3, hw⟩ := hw
  obtain ⟨l4, hw⟩ := hw
  obtain ⟨h5, eh5⟩ : ∃ z, z = sJ h p2 0 x1.toInt64 := ⟨_, rfl⟩
  replace hw := hw h5 eh5
  refine s_J C g3 (j := 0) rfl (by decide) l4 dL_lacks_8 eh5 ?_
  refine r_goto C 15 dL_lacks_9 (by decide) ?_
  refine r_iconst (v := (0 : Int32)) C dL_lacks_15 (by decide) ?_
  exact r_iret C dL_lacks_16 (by decide) (by decide) ⟨_, rfl, hw⟩
theorem v_L_lacks : MSW yL_lacks cL_lacks 4 (some .int) [(0, 9, 12, 13)] 3 := ⟨w_708, w_707, w_54, ⟨by decide +kernel, by decide +kernel, by decide +kernel⟩⟩

def wp_L_lotIn (h : Hp) (p0 : Nat) (p1 : Int32) (p2 : Int32) (p3 : Nat) (post : Int32 → Hp → Prop) : Prop :=
(hT h p0 = 7 ∧
 wp_X5_lotIn h p0 p1 p2 (fun x1 =>
 (hT h p3 = 22 ∧
 (0 < hL h p3 ∧
 (∀ h5, h5 = sJ h p3 0 x1.toInt64 →
 post (0 : Int32) h5)))) (fun X => (X = XB ∧ post (1 : Int32) h)))
set_option maxHeartbeats 4000000 in
set_option maxRecDepth 100000 in
theorem m_L_lotIn {E : Ev} {l : Launch} (hl : l.stackTraces = false) {h : Hp} {p0 : Nat} {p1 : Int32} {p2 : Int32} {p3 : Nat} {post : Int32 → Hp → Prop} (hw : wp_L_lotIn h p0 p1 p2 p3 post) : MTW E l yL_lotIn cL_lotIn 5 (some .int) [(0, 10, 13, 13)] 9 168 2 12 h [.ref p0, .int p1, .int p2, .ref p3] (poI post) (pxN) := by
  refine MTW.of (by decide) hl (Nat.le_of_ble_eq_true rfl) (fun p e s m args below meth c C => ?_)
  unfold wp_L_lotIn at hw
  have C : CX E p l s m args meth c cL_lotIn 5 "TaktLineLaw" "lotIn" (some .int) (tableOf [(0, 10, 13, 13)]) := C
  show WS E p l e (rmOf 9 2 12 168) s m args below meth c 5 (vx_MQ below (qcP E (poI post)) (xcP E (pxN)) args s 2 12 (bsA E)) h 0 0 0 [(0, .ref p0), (1, .int p1), (2, .int p2), (3, .ref p3)] []
  refine r_aload_n C dL_lotIn_0 rfl rfl ?_
  refine r_iconst (v := (0 : Int32)) C dL_lotIn_1 (by decide) ?_
  refine r_aload_n C dL_lotIn_2 rfl rfl ?_
  refine r_iload_n C dL_lotIn_3 rfl rfl ?_
  refine r_iload_n C dL_lotIn_4 rfl rfl ?_
  obtain ⟨g2, hw⟩ := hw
  refine r_callV (As := [.int p1, .int p2]) (st := [.int (0 : Int32), .ref p3]) C (m_X5_lotIn hl hw) v_X5_lotIn w_716 K7 g2 (by decide) ob7 rfl ⟨leb rfl, leb rfl⟩ ⟨leb rfl, leb rfl⟩ rfl (leb rfl) dL_lotIn_5 (fun X h9 hx => by
      obtain ⟨hv, rfl⟩ := hx
      replace hw := hv
      clear hv
      rcases hw with ⟨rfl, hv⟩
      · replace hw := hv
        clear hv
        refine r_catch C [] (tE 0 10 13 13) [] rfl (fun z hz => by cases hz) (by decide) (by decide) w_213 (by decide +kernel) (fun q9 => ?_)
        refine r_astore C dL_lotIn_13 (by decide) [] trivial ?_
        refine r_iconst (v := (1 : Int32)) C dL_lotIn_15 (by decide) ?_
        exact r_iret C dL_lotIn_16 (by decide) (by decide) ⟨_, rfl, hw⟩) (kpI (K := fun hK sK => WS E p l e (rmOf 9 2 12 168) s m args below meth c 5 (vx_MQ below (qcP E (poI post)) (xcP E (pxN)) args s 2 12 (bsA E)) hK (0 + 2) (0 + 12) (5 + 3) [(0, .ref p0), (1, .int p1), (2, .int p2), (3, .ref p3)] sK) (fun x1 hv => ?_))
  replace hw := hv
  clear hv
  refine r_i2l C dL_lotIn_8 ?_
  obtain ⟨g3, hw⟩ := hw
  obtain ⟨l4, hw⟩ := hw
  obtain ⟨h5, eh5⟩ : ∃ z, z = sJ h p3 0 x1.toInt64 := ⟨_, rfl⟩
  replace hw := hw h5 eh5
  refine s_J C g3 (j := 0) rfl (by decide) l4 dL_lotIn_9 eh5 ?_
  refine r_goto C 17 dL_lotIn_10 (by decide) ?_
  refine r_iconst (v := (0 : Int32)) C dL_lotIn_17 (by decide) ?_
  exact r_iret C dL_lotIn_18 (by decide) (by decide) ⟨_, rfl, hw⟩
theorem v_L_lotIn : MSW yL_lotIn cL_lotIn 5 (some .int) [(0, 10, 13, 13)] 4 := ⟨w_715, w_714, w_54, ⟨by decide +kernel, by decide +kernel, by decide +kernel⟩⟩

def wp_L_lotByPicks (h : Hp) (p0 : Nat) (p1 : Int32) (p2 : Int32) (p3 : Nat) (post : Int32 → Hp → Prop) : Prop :=
(hT h p0 = 7 ∧
 wp_X5_lotByPicks h p0 p1 p2 (fun x1 =>
 (hT h p3 = 22 ∧
 (0 < hL h p3 ∧
 (∀ h5, h5 = sJ h p3 0 x1.toInt64 →
 post (0 : Int32) h5)))) (fun X => (X = XB ∧ post (1 : Int32) h)))
set_option maxHeartbeats 4000000 in
set_option maxRecDepth 100000 in
theorem m_L_lotByPicks {E : Ev} {l : Launch} (hl : l.stackTraces = false) {h : Hp} {p0 : Nat} {p1 : Int32} {p2 : Int32} {p3 : Nat} {post : Int32 → Hp → Prop} (hw : wp_L_lotByPicks h p0 p1 p2 p3 post) : MTW E l yL_lotByPicks cL_lotByPicks 5 (some .int) [(0, 10, 13, 13)] 8 148 2 12 h [.ref p0, .int p1, .int p2, .ref p3] (poI post) (pxN) := by
  refine MTW.of (by decide) hl (Nat.le_of_ble_eq_true rfl) (fun p e s m args below meth c C => ?_)
  unfold wp_L_lotByPicks at hw
  have C : CX E p l s m args meth c cL_lotByPicks 5 "TaktLineLaw" "lotByPicks" (some .int) (tableOf [(0, 10, 13, 13)]) := C
  show WS E p l e (rmOf 8 2 12 148) s m args below meth c 5 (vx_MQ below (qcP E (poI post)) (xcP E (pxN)) args s 2 12 (bsA E)) h 0 0 0 [(0, .ref p0), (1, .int p1), (2, .int p2), (3, .ref p3)] []
  refine r_aload_n C dL_lotByPicks_0 rfl rfl ?_
  refine r_iconst (v := (0 : Int32)) C dL_lotByPicks_1 (by decide) ?_
  refine r_aload_n C dL_lotByPicks_2 rfl rfl ?_
  refine r_iload_n C dL_lotByPicks_3 rfl rfl ?_
  refine r_iload_n C dL_lotByPicks_4 rfl rfl ?_
  obtain ⟨g2, hw⟩ := hw
  refine r_callV (As := [.int p1, .int p2]) (st := [.int (0 : Int32), .ref p3]) C (m_X5_lotByPicks hl hw) v_X5_lotByPicks w_723 K7 g2 (by decide) ob7 rfl ⟨leb rfl, leb rfl⟩ ⟨leb rfl, leb rfl⟩ rfl (leb rfl) dL_lotByPicks_5 (fun X h9 hx => by
      obtain ⟨hv, rfl⟩ := hx
      replace hw := hv
      clear hv
      rcases hw with ⟨rfl, hv⟩
      · replace hw := hv
        clear hv
        refine r_catch C [] (tE 0 10 13 13) [] rfl (fun z hz => by cases hz) (by decide) (by decide) w_213 (by decide +kernel) (fun q9 => ?_)
        refine r_astore C dL_lotByPicks_13 (by decide) [] trivial ?_
        refine r_iconst (v := (1 : Int32)) C dL_lotByPicks_15 (by decide) ?_
        exact r_iret C dL_lotByPicks_16 (by decide) (by decide) ⟨_, rfl, hw⟩) (kpI (K := fun hK sK => WS E p l e (rmOf 8 2 12 148) s m args below meth c 5 (vx_MQ below (qcP E (poI post)) (xcP E (pxN)) args s 2 12 (bsA E)) hK (0 + 2) (0 + 12) (5 + 3) [(0, .ref p0), (1, .int p1), (2, .int p2), (3, .ref p3)] sK) (fun x1 hv => ?_))
  replace hw := hv
  clear hv
  refine r_i2l C dL_lotByPicks_8 ?_
  obtain ⟨g3, hw⟩ := hw
  obtain ⟨l4, hw⟩ := hw
  obtain ⟨h5, eh5⟩ : ∃ z, z = sJ h p3 0 x1.toInt64 := ⟨_, rfl⟩
  replace hw := hw h5 eh5
  refine s_J C g3 (j := 0) rfl (by decide) l4 dL_lotByPicks_9 eh5 ?_
  refine r_goto C 17 dL_lotByPicks_10 (by decide) ?_
  refine r_iconst (v := (0 : Int32)) C dL_lotByPicks_17 (by decide) ?_
  exact r_iret C dL_lotByPicks_18 (by decide) (by decide) ⟨_, rfl, hw⟩
theorem v_L_lotByPicks : MSW yL_lotByPicks cL_lotByPicks 5 (some .int) [(0, 10, 13, 13)] 4 := ⟨w_722, w_721, w_54, ⟨by decide +kernel, by decide +kernel, by decide +kernel⟩⟩

def wp_L_build (dE : Nat) (h : Hp) (p0 : Nat) (p1 : Int32) (p2 : Nat) (post : Int32 → Hp → Prop) : Prop :=
(hT h p0 = 7 ∧
 wp_X5_build dE h p0 p1 (fun x1 h1 =>
 (hT h1 p2 = 22 ∧
 (0 < hL h1 p2 ∧
 (∀ h5, h5 = sJ h1 p2 0 x1.toInt64 →
 post (0 : Int32) h5)))) (fun X h1 => (X = XB ∧ post (1 : Int32) h1) ∨ (X = XS ∧ post (2 : Int32) h1)))
set_option maxHeartbeats 4000000 in
set_option maxRecDepth 100000 in
theorem m_L_build {E : Ev} {l : Launch} (hl : l.stackTraces = false) {h : Hp} {p0 : Nat} {p1 : Int32} {p2 : Nat} {post : Int32 → Hp → Prop} (hw : wp_L_build (eE E) h p0 p1 p2 post) : MTW E l yL_build cL_build 4 (some .int) [(0, 9, 12, 13), (0, 9, 15, 17)] 9 194 4 68 h [.ref p0, .int p1, .ref p2] (poI post) (pxN) := by
  refine MTW.of (by decide) hl (Nat.le_of_ble_eq_true rfl) (fun p e s m args below meth c C => ?_)
  unfold wp_L_build at hw
  have C : CX E p l s m args meth c cL_build 4 "TaktLineLaw" "build" (some .int) (tableOf [(0, 9, 12, 13), (0, 9, 15, 17)]) := C
  show WS E p l e (rmOf 9 4 68 194) s m args below meth c 4 (vx_MQ below (qcP E (poI post)) (xcP E (pxN)) args s 4 68 (bsA E)) h 0 0 0 [(0, .ref p0), (1, .int p1), (2, .ref p2)] []
  refine r_aload_n C dL_build_0 rfl rfl ?_
  refine r_iconst (v := (0 : Int32)) C dL_build_1 (by decide) ?_
  refine r_aload_n C dL_build_2 rfl rfl ?_
  refine r_iload_n C dL_build_3 rfl rfl ?_
  obtain ⟨g2, hw⟩ := hw
  refine r_callV (As := [.int p1]) (st := [.int (0 : Int32), .ref p2]) C (m_X5_build hl hw) v_X5_build w_730 K7 g2 (by decide) ob7 rfl ⟨leb rfl, leb rfl⟩ ⟨leb rfl, leb rfl⟩ rfl (leb rfl) dL_build_4 (fun X h1 hx => by
      replace hw := hx
      clear hx
      rcases hw with ⟨rfl, hv⟩ | ⟨rfl, hv⟩
      · replace hw := hv
        clear hv
        refine r_catch C [] (tE 0 9 12 13) [tE 0 9 15 17] rfl (fun z hz => by cases hz) (by decide) (by decide) w_213 (by decide +kernel) (fun q9 => ?_)
        refine r_astore_n C dL_build_12 rfl (by decide) [] trivial ?_
        refine r_iconst (v := (1 : Int32)) C dL_build_13 (by decide) ?_
        exact r_iret C dL_build_14 (by decide) (by decide) ⟨_, rfl, hw⟩
      · replace hw := hv
        clear hv
        refine r_catch C [tE 0 9 12 13] (tE 0 9 15 17) [] rfl (fun z hz => by rcases List.mem_cons.mp hz with rfl | hz; exact ⟨by decide, _, w_213, by decide +kernel⟩; cases hz) (by decide) (by decide) w_215 (by decide +kernel) (fun q9 => ?_)
        refine r_astore_n C dL_build_15 rfl (by decide) [] trivial ?_
        refine r_iconst (v := (2 : Int32)) C dL_build_16 (by decide) ?_
        exact r_iret C dL_build_17 (by decide) (by decide) ⟨_, rfl, hw⟩) (kkI (K := fun hK sK => WS E p l e (rmOf 9 4 68 194) s m args below meth c 4 (vx_MQ below (qcP E (poI post)) (xcP E (pxN)) args s 4 68 (bsA E)) hK (0 + 4) (0 + 68) (4 + 3) [(0, .ref p0), (1, .int p1), (2, .ref p2)] sK) (fun x1 h1 hv => ?_))
  replace hw := hv
  clear hv
  refine r_i2l C dL_build_7 ?_
  obtain ⟨g3, hw⟩ := hw
  obtain ⟨l4, hw⟩ := hw
  obtain ⟨h5, eh5⟩ : ∃ z, z = sJ h1 p2 0 x1.toInt64 := ⟨_, rfl⟩
  replace hw := hw h5 eh5
  refine s_J C g3 (j := 0) rfl (by decide) l4 dL_build_8 eh5 ?_
  refine r_goto C 18 dL_build_9 (by decide) ?_
  refine r_iconst (v := (0 : Int32)) C dL_build_18 (by decide) ?_
  exact r_iret C dL_build_19 (by decide) (by decide) ⟨_, rfl, hw⟩
theorem v_L_build : MSW yL_build cL_build 4 (some .int) [(0, 9, 12, 13), (0, 9, 15, 17)] 3 := ⟨w_729, w_728, w_54, ⟨by decide +kernel, by decide +kernel, by decide +kernel⟩⟩

def wp_L_sign (h : Hp) (p0 : Nat) (p1 : Int32) (p2 : Int32) (p3 : Nat) (post : Int32 → Hp → Prop) : Prop :=
(hT h p0 = 7 ∧
 wp_X5_sign h p0 p1 p2 (fun x1 h1 =>
 (∀ J16 : Int64 → Prop, (∀ (t16_0 : Int64), (hT h1 p3 = 22 ∧
 (0 < hL h1 p3 ∧
 (∀ h5, h5 = sJ h1 p3 0 t16_0 →
 post (0 : Int32) h5))) → J16 t16_0) →
 ((x1 = 0 →
 J16 (0 : Int64)) ∧ (¬ (x1 = 0) →
 J16 (1 : Int64))))) (fun X h1 => (X = XB ∧ post (1 : Int32) h1)))
set_option maxHeartbeats 4000000 in
set_option maxRecDepth 100000 in
theorem m_L_sign {E : Ev} {l : Launch} (hl : l.stackTraces = false) {h : Hp} {p0 : Nat} {p1 : Int32} {p2 : Int32} {p3 : Nat} {post : Int32 → Hp → Prop} (hw : wp_L_sign h p0 p1 p2 p3 post) : MTW E l yL_sign cL_sign 5 (some .int) [(0, 17, 20, 13)] 8 147 2 12 h [.ref p0, .int p1, .int p2, .ref p3] (poI post) (pxN) := by
  refine MTW.of (by decide) hl (Nat.le_of_ble_eq_true rfl) (fun p e s m args below meth c C => ?_)
  unfold wp_L_sign at hw
  have C : CX E p l s m args meth c cL_sign 5 "TaktLineLaw" "sign" (some .int) (tableOf [(0, 17, 20, 13)]) := C
  show WS E p l e (rmOf 8 2 12 147) s m args below meth c 5 (vx_MQ below (qcP E (poI post)) (xcP E (pxN)) args s 2 12 (bsA E)) h 0 0 0 [(0, .ref p0), (1, .int p1), (2, .int p2), (3, .ref p3)] []
  refine r_aload_n C dL_sign_0 rfl rfl ?_
  refine r_iconst (v := (0 : Int32)) C dL_sign_1 (by decide) ?_
  refine r_aload_n C dL_sign_2 rfl rfl ?_
  refine r_iload_n C dL_sign_3 rfl rfl ?_
  refine r_iload_n C dL_sign_4 rfl rfl ?_
  obtain ⟨g2, hw⟩ := hw
  refine r_callV (As := [.int p1, .int p2]) (st := [.int (0 : Int32), .ref p3]) C (m_X5_sign hl hw) v_X5_sign w_762 K7 g2 (by decide) ob7 rfl ⟨leb rfl, leb rfl⟩ ⟨leb rfl, leb rfl⟩ rfl (leb rfl) dL_sign_5 (fun X h1 hx => by
      replace hw := hx
      clear hx
      rcases hw with ⟨rfl, hv⟩
      · replace hw := hv
        clear hv
        refine r_catch C [] (tE 0 17 20 13) [] rfl (fun z hz => by cases hz) (by decide) (by decide) w_213 (by decide +kernel) (fun q9 => ?_)
        refine r_astore C dL_sign_20 (by decide) [] trivial ?_
        refine r_iconst (v := (1 : Int32)) C dL_sign_22 (by decide) ?_
        exact r_iret C dL_sign_23 (by decide) (by decide) ⟨_, rfl, hw⟩) (kkI (K := fun hK sK => WS E p l e (rmOf 8 2 12 147) s m args below meth c 5 (vx_MQ below (qcP E (poI post)) (xcP E (pxN)) args s 2 12 (bsA E)) hK (0 + 2) (0 + 12) (5 + 3) [(0, .ref p0), (1, .int p1), (2, .int p2), (3, .ref p3)] sK) (fun x1 h1 hv => ?_))
  replace hw := hv
  clear hv
  replace hw := hw (fun (t16_0 : Int64) => WS E p l e (rmOf 8 2 12 147) s m args below meth c 5 (vx_MQ below (qcP E (poI post)) (xcP E (pxN)) args s 2 12 (bsA E)) h1 2 12 16 [] [.long t16_0, .int (0 : Int32), .ref p3]) (by
    intro t16_0 hv
    replace hw := hv
    clear hv
    obtain ⟨g3, hw⟩ := hw
    obtain ⟨l4, hw⟩ := hw
    obtain ⟨h5, eh5⟩ : ∃ z, z = sJ h1 p3 0 t16_0 := ⟨_, rfl⟩
    replace hw := hw h5 eh5
    refine s_J C g3 (j := 0) rfl (by decide) l4 dL_sign_16 eh5 ?_
    refine r_goto C 24 dL_sign_17 (by decide) ?_
    refine r_iconst (v := (0 : Int32)) C dL_sign_24 (by decide) ?_
    exact r_iret C dL_sign_25 (by decide) (by decide) ⟨_, rfl, hw⟩
    )
  refine r_if_eq C 15 dL_sign_8 (by decide) (fun z6 => ?_) (fun z6 => ?_)
  · replace hw := hw.1 z6
    refine r_lconst (v := 0) C dL_sign_15 (by decide) ?_
    exact (r_subk hw trivial)
  · replace hw := hw.2 z6
    refine r_lconst (v := 1) C dL_sign_11 (by decide) ?_
    refine r_goto C 16 dL_sign_12 (by decide) ?_
    exact (r_subk hw trivial)
theorem v_L_sign : MSW yL_sign cL_sign 5 (some .int) [(0, 17, 20, 13)] 4 := ⟨w_761, w_760, w_54, ⟨by decide +kernel, by decide +kernel, by decide +kernel⟩⟩

def wp_L_flash (h : Hp) (p0 : Nat) (p1 : Int32) (p2 : Int32) (p3 : Nat) (post : Int32 → Hp → Prop) : Prop :=
(hT h p0 = 7 ∧
 wp_X5_flash h p0 p1 p2 (fun x1 h1 =>
 (hT h1 p3 = 22 ∧
 (0 < hL h1 p3 ∧
 (∀ h5, h5 = sJ h1 p3 0 x1.toInt64 →
 post (0 : Int32) h5)))) (fun X h1 => (X = XB ∧ post (1 : Int32) h1) ∨ (X = XS ∧ post (2 : Int32) h1)))
set_option maxHeartbeats 4000000 in
set_option maxRecDepth 100000 in
theorem m_L_flash {E : Ev} {l : Launch} (hl : l.stackTraces = false) {h : Hp} {p0 : Nat} {p1 : Int32} {p2 : Int32} {p3 : Nat} {post : Int32 → Hp → Prop} (hw : wp_L_flash h p0 p1 p2 p3 post) : MTW E l yL_flash cL_flash 5 (some .int) [(0, 10, 13, 13), (0, 10, 17, 17)] 9 169 3 18 h [.ref p0, .int p1, .int p2, .ref p3] (poI post) (pxN) := by
  refine MTW.of (by decide) hl (Nat.le_of_ble_eq_true rfl) (fun p e s m args below meth c C => ?_)
  unfold wp_L_flash at hw
  have C : CX E p l s m args meth c cL_flash 5 "TaktLineLaw" "flash" (some .int) (tableOf [(0, 10, 13, 13), (0, 10, 17, 17)]) := C
  show WS E p l e (rmOf 9 3 18 169) s m args below meth c 5 (vx_MQ below (qcP E (poI post)) (xcP E (pxN)) args s 3 18 (bsA E)) h 0 0 0 [(0, .ref p0), (1, .int p1), (2, .int p2), (3, .ref p3)] []
  refine r_aload_n C dL_flash_0 rfl rfl ?_
  refine r_iconst (v := (0 : Int32)) C dL_flash_1 (by decide) ?_
  refine r_aload_n C dL_flash_2 rfl rfl ?_
  refine r_iload_n C dL_flash_3 rfl rfl ?_
  refine r_iload_n C dL_flash_4 rfl rfl ?_
  obtain ⟨g2, hw⟩ := hw
  refine r_callV (As := [.int p1, .int p2]) (st := [.int (0 : Int32), .ref p3]) C (m_X5_flash hl hw) v_X5_flash w_774 K7 g2 (by decide) ob7 rfl ⟨leb rfl, leb rfl⟩ ⟨leb rfl, leb rfl⟩ rfl (leb rfl) dL_flash_5 (fun X h1 hx => by
      replace hw := hx
      clear hx
      rcases hw with ⟨rfl, hv⟩ | ⟨rfl, hv⟩
      · replace hw := hv
        clear hv
        refine r_catch C [] (tE 0 10 13 13) [tE 0 10 17 17] rfl (fun z hz => by cases hz) (by decide) (by decide) w_213 (by decide +kernel) (fun q9 => ?_)
        refine r_astore C dL_flash_13 (by decide) [] trivial ?_
        refine r_iconst (v := (1 : Int32)) C dL_flash_15 (by decide) ?_
        exact r_iret C dL_flash_16 (by decide) (by decide) ⟨_, rfl, hw⟩
      · replace hw := hv
        clear hv
        refine r_catch C [tE 0 10 13 13] (tE 0 10 17 17) [] rfl (fun z hz => by rcases List.mem_cons.mp hz with rfl | hz; exact ⟨by decide, _, w_213, by decide +kernel⟩; cases hz) (by decide) (by decide) w_215 (by decide +kernel) (fun q9 => ?_)
        refine r_astore C dL_flash_17 (by decide) [] trivial ?_
        refine r_iconst (v := (2 : Int32)) C dL_flash_19 (by decide) ?_
        exact r_iret C dL_flash_20 (by decide) (by decide) ⟨_, rfl, hw⟩) (kkI (K := fun hK sK => WS E p l e (rmOf 9 3 18 169) s m args below meth c 5 (vx_MQ below (qcP E (poI post)) (xcP E (pxN)) args s 3 18 (bsA E)) hK (0 + 3) (0 + 18) (5 + 3) [(0, .ref p0), (1, .int p1), (2, .int p2), (3, .ref p3)] sK) (fun x1 h1 hv => ?_))
  replace hw := hv
  clear hv
  refine r_i2l C dL_flash_8 ?_
  obtain ⟨g3, hw⟩ := hw
  obtain ⟨l4, hw⟩ := hw
  obtain ⟨h5, eh5⟩ : ∃ z, z = sJ h1 p3 0 x1.toInt64 := ⟨_, rfl⟩
  replace hw := hw h5 eh5
  refine s_J C g3 (j := 0) rfl (by decide) l4 dL_flash_9 eh5 ?_
  refine r_goto C 21 dL_flash_10 (by decide) ?_
  refine r_iconst (v := (0 : Int32)) C dL_flash_21 (by decide) ?_
  exact r_iret C dL_flash_22 (by decide) (by decide) ⟨_, rfl, hw⟩
theorem v_L_flash : MSW yL_flash cL_flash 5 (some .int) [(0, 10, 13, 13), (0, 10, 17, 17)] 4 := ⟨w_773, w_772, w_54, ⟨by decide +kernel, by decide +kernel, by decide +kernel⟩⟩

def wp_L_imageOf (h : Hp) (p0 : Nat) (p1 : Int32) (p2 : Nat) (post : Int32 → Hp → Prop) : Prop :=
(hT h p0 = 7 ∧
 wp_X5_imageOf h p0 p1 (fun x1 =>
 (hT h p2 = 22 ∧
 (0 < hL h p2 ∧
 (∀ h5, h5 = sJ h p2 0 x1.toInt64 →
 post (0 : Int32) h5)))) (fun X => (X = XB ∧ post (1 : Int32) h)))
set_option maxHeartbeats 4000000 in
set_option maxRecDepth 100000 in
theorem m_L_imageOf {E : Ev} {l : Launch} (hl : l.stackTraces = false) {h : Hp} {p0 : Nat} {p1 : Int32} {p2 : Nat} {post : Int32 → Hp → Prop} (hw : wp_L_imageOf h p0 p1 p2 post) : MTW E l yL_imageOf cL_imageOf 4 (some .int) [(0, 9, 12, 13)] 9 166 1 6 h [.ref p0, .int p1, .ref p2] (poI post) (pxN) := by
  refine MTW.of (by decide) hl (Nat.le_of_ble_eq_true rfl) (fun p e s m args below meth c C => ?_)
  unfold wp_L_imageOf at hw
  have C : CX E p l s m args meth c cL_imageOf 4 "TaktLineLaw" "imageOf" (some .int) (tableOf [(0, 9, 12, 13)]) := C
  show WS E p l e (rmOf 9 1 6 166) s m args below meth c 4 (vx_MQ below (qcP E (poI post)) (xcP E (pxN)) args s 1 6 (bsA E)) h 0 0 0 [(0, .ref p0), (1, .int p1), (2, .ref p2)] []
  refine r_aload_n C dL_imageOf_0 rfl rfl ?_
  refine r_iconst (v := (0 : Int32)) C dL_imageOf_1 (by decide) ?_
  refine r_aload_n C dL_imageOf_2 rfl rfl ?_
  refine r_iload_n C dL_imageOf_3 rfl rfl ?_
  obtain ⟨g2, hw⟩ := hw
  refine r_callV (As := [.int p1]) (st := [.int (0 : Int32), .ref p2]) C (m_X5_imageOf hl hw) v_X5_imageOf w_782 K7 g2 (by decide) ob7 rfl ⟨leb rfl, leb rfl⟩ ⟨leb rfl, leb rfl⟩ rfl (leb rfl) dL_imageOf_4 (fun X h9 hx => by
      obtain ⟨hv, rfl⟩ := hx
      replace hw := hv
      clear hv
      rcases hw with ⟨rfl, hv⟩
      · replace hw := hv
        clear hv
        refine r_catch C [] (tE 0 9 12 13) [] rfl (fun z hz => by cases hz) (by decide) (by decide) w_213 (by decide +kernel) (fun q9 => ?_)
        refine r_astore_n C dL_imageOf_12 rfl (by decide) [] trivial ?_
        refine r_iconst (v := (1 : Int32)) C dL_imageOf_13 (by decide) ?_
        exact r_iret C dL_imageOf_14 (by decide) (by decide) ⟨_, rfl, hw⟩) (kpI (K := fun hK sK => WS E p l e (rmOf 9 1 6 166) s m args below meth c 4 (vx_MQ below (qcP E (poI post)) (xcP E (pxN)) args s 1 6 (bsA E)) hK (0 + 1) (0 + 6) (4 + 3) [(0, .ref p0), (1, .int p1), (2, .ref p2)] sK) (fun x1 hv => ?_))
  replace hw := hv
  clear hv
  refine r_i2l C dL_imageOf_7 ?_
  obtain ⟨g3, hw⟩ := hw
  obtain ⟨l4, hw⟩ := hw
  obtain ⟨h5, eh5⟩ : ∃ z, z = sJ h p2 0 x1.toInt64 := ⟨_, rfl⟩
  replace hw := hw h5 eh5
  refine s_J C g3 (j := 0) rfl (by decide) l4 dL_imageOf_8 eh5 ?_
  refine r_goto C 15 dL_imageOf_9 (by decide) ?_
  refine r_iconst (v := (0 : Int32)) C dL_imageOf_15 (by decide) ?_
  exact r_iret C dL_imageOf_16 (by decide) (by decide) ⟨_, rfl, hw⟩
theorem v_L_imageOf : MSW yL_imageOf cL_imageOf 4 (some .int) [(0, 9, 12, 13)] 3 := ⟨w_781, w_780, w_54, ⟨by decide +kernel, by decide +kernel, by decide +kernel⟩⟩

def wp_L_versionIn (h : Hp) (p0 : Nat) (p1 : Int32) (p2 : Int32) (p3 : Nat) (post : Int32 → Hp → Prop) : Prop :=
(hT h p0 = 7 ∧
 wp_X5_versionIn h p0 p1 p2 (fun x1 =>
 (hT h p3 = 22 ∧
 (0 < hL h p3 ∧
 (∀ h5, h5 = sJ h p3 0 x1.toInt64 →
 post (0 : Int32) h5)))) (fun X => (X = XB ∧ post (1 : Int32) h)))
set_option maxHeartbeats 4000000 in
set_option maxRecDepth 100000 in
theorem m_L_versionIn {E : Ev} {l : Launch} (hl : l.stackTraces = false) {h : Hp} {p0 : Nat} {p1 : Int32} {p2 : Int32} {p3 : Nat} {post : Int32 → Hp → Prop} (hw : wp_L_versionIn h p0 p1 p2 p3 post) : MTW E l yL_versionIn cL_versionIn 5 (some .int) [(0, 10, 13, 13)] 8 146 2 12 h [.ref p0, .int p1, .int p2, .ref p3] (poI post) (pxN) := by
  refine MTW.of (by decide) hl (Nat.le_of_ble_eq_true rfl) (fun p e s m args below meth c C => ?_)
  unfold wp_L_versionIn at hw
  have C : CX E p l s m args meth c cL_versionIn 5 "TaktLineLaw" "versionIn" (some .int) (tableOf [(0, 10, 13, 13)]) := C
  show WS E p l e (rmOf 8 2 12 146) s m args below meth c 5 (vx_MQ below (qcP E (poI post)) (xcP E (pxN)) args s 2 12 (bsA E)) h 0 0 0 [(0, .ref p0), (1, .int p1), (2, .int p2), (3, .ref p3)] []
  refine r_aload_n C dL_versionIn_0 rfl rfl ?_
  refine r_iconst (v := (0 : Int32)) C dL_versionIn_1 (by decide) ?_
  refine r_aload_n C dL_versionIn_2 rfl rfl ?_
  refine r_iload_n C dL_versionIn_3 rfl rfl ?_
  refine r_iload_n C dL_versionIn_4 rfl rfl ?_
  obtain ⟨g2, hw⟩ := hw
  refine r_callV (As := [.int p1, .int p2]) (st := [.int (0 : Int32), .ref p3]) C (m_X5_versionIn hl hw) v_X5_versionIn w_789 K7 g2 (by decide) ob7 rfl ⟨leb rfl, leb rfl⟩ ⟨leb rfl, leb rfl⟩ rfl (leb rfl) dL_versionIn_5 (fun X h9 hx => by
      obtain ⟨hv, rfl⟩ := hx
      replace hw := hv
      clear hv
      rcases hw with ⟨rfl, hv⟩
      · replace hw := hv
        clear hv
        refine r_catch C [] (tE 0 10 13 13) [] rfl (fun z hz => by cases hz) (by decide) (by decide) w_213 (by decide +kernel) (fun q9 => ?_)
        refine r_astore C dL_versionIn_13 (by decide) [] trivial ?_
        refine r_iconst (v := (1 : Int32)) C dL_versionIn_15 (by decide) ?_
        exact r_iret C dL_versionIn_16 (by decide) (by decide) ⟨_, rfl, hw⟩) (kpI (K := fun hK sK => WS E p l e (rmOf 8 2 12 146) s m args below meth c 5 (vx_MQ below (qcP E (poI post)) (xcP E (pxN)) args s 2 12 (bsA E)) hK (0 + 2) (0 + 12) (5 + 3) [(0, .ref p0), (1, .int p1), (2, .int p2), (3, .ref p3)] sK) (fun x1 hv => ?_))
  replace hw := hv
  clear hv
  refine r_i2l C dL_versionIn_8 ?_
  obtain ⟨g3, hw⟩ := hw
  obtain ⟨l4, hw⟩ := hw
  obtain ⟨h5, eh5⟩ : ∃ z, z = sJ h p3 0 x1.toInt64 := ⟨_, rfl⟩
  replace hw := hw h5 eh5
  refine s_J C g3 (j := 0) rfl (by decide) l4 dL_versionIn_9 eh5 ?_
  refine r_goto C 17 dL_versionIn_10 (by decide) ?_
  refine r_iconst (v := (0 : Int32)) C dL_versionIn_17 (by decide) ?_
  exact r_iret C dL_versionIn_18 (by decide) (by decide) ⟨_, rfl, hw⟩
theorem v_L_versionIn : MSW yL_versionIn cL_versionIn 5 (some .int) [(0, 10, 13, 13)] 4 := ⟨w_788, w_787, w_54, ⟨by decide +kernel, by decide +kernel, by decide +kernel⟩⟩

def wp_L_isFit (h : Hp) (p0 : Nat) (p1 : Int32) (p2 : Nat) (post : Int32 → Hp → Prop) : Prop :=
(hT h p0 = 7 ∧
 wp_X5_isFit h p0 p1 (fun x1 =>
 (∀ J15 : Int64 → Prop, (∀ (t15_0 : Int64), (hT h p2 = 22 ∧
 (0 < hL h p2 ∧
 (∀ h5, h5 = sJ h p2 0 t15_0 →
 post (0 : Int32) h5))) → J15 t15_0) →
 ((x1 = 0 →
 J15 (0 : Int64)) ∧ (¬ (x1 = 0) →
 J15 (1 : Int64))))) (fun X => (X = XB ∧ post (1 : Int32) h)))
set_option maxHeartbeats 4000000 in
set_option maxRecDepth 100000 in
theorem m_L_isFit {E : Ev} {l : Launch} (hl : l.stackTraces = false) {h : Hp} {p0 : Nat} {p1 : Int32} {p2 : Nat} {post : Int32 → Hp → Prop} (hw : wp_L_isFit h p0 p1 p2 post) : MTW E l yL_isFit cL_isFit 4 (some .int) [(0, 16, 19, 13)] 9 165 1 6 h [.ref p0, .int p1, .ref p2] (poI post) (pxN) := by
  refine MTW.of (by decide) hl (Nat.le_of_ble_eq_true rfl) (fun p e s m args below meth c C => ?_)
  unfold wp_L_isFit at hw
  have C : CX E p l s m args meth c cL_isFit 4 "TaktLineLaw" "isFit" (some .int) (tableOf [(0, 16, 19, 13)]) := C
  show WS E p l e (rmOf 9 1 6 165) s m args below meth c 4 (vx_MQ below (qcP E (poI post)) (xcP E (pxN)) args s 1 6 (bsA E)) h 0 0 0 [(0, .ref p0), (1, .int p1), (2, .ref p2)] []
  refine r_aload_n C dL_isFit_0 rfl rfl ?_
  refine r_iconst (v := (0 : Int32)) C dL_isFit_1 (by decide) ?_
  refine r_aload_n C dL_isFit_2 rfl rfl ?_
  refine r_iload_n C dL_isFit_3 rfl rfl ?_
  obtain ⟨g2, hw⟩ := hw
  refine r_callV (As := [.int p1]) (st := [.int (0 : Int32), .ref p2]) C (m_X5_isFit hl hw) v_X5_isFit w_796 K7 g2 (by decide) ob7 rfl ⟨leb rfl, leb rfl⟩ ⟨leb rfl, leb rfl⟩ rfl (leb rfl) dL_isFit_4 (fun X h9 hx => by
      obtain ⟨hv, rfl⟩ := hx
      replace hw := hv
      clear hv
      rcases hw with ⟨rfl, hv⟩
      · replace hw := hv
        clear hv
        refine r_catch C [] (tE 0 16 19 13) [] rfl (fun z hz => by cases hz) (by decide) (by decide) w_213 (by decide +kernel) (fun q9 => ?_)
        refine r_astore_n C dL_isFit_19 rfl (by decide) [] trivial ?_
        refine r_iconst (v := (1 : Int32)) C dL_isFit_20 (by decide) ?_
        exact r_iret C dL_isFit_21 (by decide) (by decide) ⟨_, rfl, hw⟩) (kpI (K := fun hK sK => WS E p l e (rmOf 9 1 6 165) s m args below meth c 4 (vx_MQ below (qcP E (poI post)) (xcP E (pxN)) args s 1 6 (bsA E)) hK (0 + 1) (0 + 6) (4 + 3) [(0, .ref p0), (1, .int p1), (2, .ref p2)] sK) (fun x1 hv => ?_))
  replace hw := hv
  clear hv
  replace hw := hw (fun (t15_0 : Int64) => WS E p l e (rmOf 9 1 6 165) s m args below meth c 4 (vx_MQ below (qcP E (poI post)) (xcP E (pxN)) args s 1 6 (bsA E)) h 1 6 15 [] [.long t15_0, .int (0 : Int32), .ref p2]) (by
    intro t15_0 hv
    replace hw := hv
    clear hv
    obtain ⟨g3, hw⟩ := hw
    obtain ⟨l4, hw⟩ := hw
    obtain ⟨h5, eh5⟩ : ∃ z, z = sJ h p2 0 t15_0 := ⟨_, rfl⟩
    replace hw := hw h5 eh5
    refine s_J C g3 (j := 0) rfl (by decide) l4 dL_isFit_15 eh5 ?_
    refine r_goto C 22 dL_isFit_16 (by decide) ?_
    refine r_iconst (v := (0 : Int32)) C dL_isFit_22 (by decide) ?_
    exact r_iret C dL_isFit_23 (by decide) (by decide) ⟨_, rfl, hw⟩
    )
  refine r_if_eq C 14 dL_isFit_7 (by decide) (fun z6 => ?_) (fun z6 => ?_)
  · replace hw := hw.1 z6
    refine r_lconst (v := 0) C dL_isFit_14 (by decide) ?_
    exact (r_subk hw trivial)
  · replace hw := hw.2 z6
    refine r_lconst (v := 1) C dL_isFit_10 (by decide) ?_
    refine r_goto C 15 dL_isFit_11 (by decide) ?_
    exact (r_subk hw trivial)
theorem v_L_isFit : MSW yL_isFit cL_isFit 4 (some .int) [(0, 16, 19, 13)] 3 := ⟨w_795, w_794, w_54, ⟨by decide +kernel, by decide +kernel, by decide +kernel⟩⟩

def wp_L_isTested (h : Hp) (p0 : Nat) (p1 : Int32) (p2 : Nat) (post : Int32 → Hp → Prop) : Prop :=
(hT h p0 = 7 ∧
 wp_X5_isTested h p0 p1 (fun x1 =>
 (∀ J15 : Int64 → Prop, (∀ (t15_0 : Int64), (hT h p2 = 22 ∧
 (0 < hL h p2 ∧
 (∀ h5, h5 = sJ h p2 0 t15_0 →
 post (0 : Int32) h5))) → J15 t15_0) →
 ((x1 = 0 →
 J15 (0 : Int64)) ∧ (¬ (x1 = 0) →
 J15 (1 : Int64))))) (fun X => (X = XB ∧ post (1 : Int32) h)))
set_option maxHeartbeats 4000000 in
set_option maxRecDepth 100000 in
theorem m_L_isTested {E : Ev} {l : Launch} (hl : l.stackTraces = false) {h : Hp} {p0 : Nat} {p1 : Int32} {p2 : Nat} {post : Int32 → Hp → Prop} (hw : wp_L_isTested h p0 p1 p2 post) : MTW E l yL_isTested cL_isTested 4 (some .int) [(0, 16, 19, 13)] 9 165 1 6 h [.ref p0, .int p1, .ref p2] (poI post) (pxN) := by
  refine MTW.of (by decide) hl (Nat.le_of_ble_eq_true rfl) (fun p e s m args below meth c C => ?_)
  unfold wp_L_isTested at hw
  have C : CX E p l s m args meth c cL_isTested 4 "TaktLineLaw" "isTested" (some .int) (tableOf [(0, 16, 19, 13)]) := C
  show WS E p l e (rmOf 9 1 6 165) s m args below meth c 4 (vx_MQ below (qcP E (poI post)) (xcP E (pxN)) args s 1 6 (bsA E)) h 0 0 0 [(0, .ref p0), (1, .int p1), (2, .ref p2)] []
  refine r_aload_n C dL_isTested_0 rfl rfl ?_
  refine r_iconst (v := (0 : Int32)) C dL_isTested_1 (by decide) ?_
  refine r_aload_n C dL_isTested_2 rfl rfl ?_
  refine r_iload_n C dL_isTested_3 rfl rfl ?_
  obtain ⟨g2, hw⟩ := hw
  refine r_callV (As := [.int p1]) (st := [.int (0 : Int32), .ref p2]) C (m_X5_isTested hl hw) v_X5_isTested w_803 K7 g2 (by decide) ob7 rfl ⟨leb rfl, leb rfl⟩ ⟨leb rfl, leb rfl⟩ rfl (leb rfl) dL_isTested_4 (fun X h9 hx => by
      obtain ⟨hv, rfl⟩ := hx
      replace hw := hv
      clear hv
      rcases hw with ⟨rfl, hv⟩
      · replace hw := hv
        clear hv
        refine r_catch C [] (tE 0 16 19 13) [] rfl (fun z hz => by cases hz) (by decide) (by decide) w_213 (by decide +kernel) (fun q9 => ?_)
        refine r_astore_n C dL_isTested_19 rfl (by decide) [] trivial ?_
        refine r_iconst (v := (1 : Int32)) C dL_isTested_20 (by decide) ?_
        exact r_iret C dL_isTested_21 (by decide) (by decide) ⟨_, rfl, hw⟩) (kpI (K := fun hK sK => WS E p l e (rmOf 9 1 6 165) s m args below meth c 4 (vx_MQ below (qcP E (poI post)) (xcP E (pxN)) args s 1 6 (bsA E)) hK (0 + 1) (0 + 6) (4 + 3) [(0, .ref p0), (1, .int p1), (2, .ref p2)] sK) (fun x1 hv => ?_))
  replace hw := hv
  clear hv
  replace hw := hw (fun (t15_0 : Int64) => WS E p l e (rmOf 9 1 6 165) s m args below meth c 4 (vx_MQ below (qcP E (poI post)) (xcP E (pxN)) args s 1 6 (bsA E)) h 1 6 15 [] [.long t15_0, .int (0 : Int32), .ref p2]) (by
    intro t15_0 hv
    replace hw := hv
    clear hv
    obtain ⟨g3, hw⟩ := hw
    obtain ⟨l4, hw⟩ := hw
    obtain ⟨h5, eh5⟩ : ∃ z, z = sJ h p2 0 t15_0 := ⟨_, rfl⟩
    replace hw := hw h5 eh5
    refine s_J C g3 (j := 0) rfl (by decide) l4 dL_isTested_15 eh5 ?_
    refine r_goto C 22 dL_isTested_16 (by decide) ?_
    refine r_iconst (v := (0 : Int32)) C dL_isTested_22 (by decide) ?_
    exact r_iret C dL_isTested_23 (by decide) (by decide) ⟨_, rfl, hw⟩
    )
  refine r_if_eq C 14 dL_isTested_7 (by decide) (fun z6 => ?_) (fun z6 => ?_)
  · replace hw := hw.1 z6
    refine r_lconst (v := 0) C dL_isTested_14 (by decide) ?_
    exact (r_subk hw trivial)
  · replace hw := hw.2 z6
    refine r_lconst (v := 1) C dL_isTested_10 (by decide) ?_
    refine r_goto C 15 dL_isTested_11 (by decide) ?_
    exact (r_subk hw trivial)
theorem v_L_isTested : MSW yL_isTested cL_isTested 4 (some .int) [(0, 16, 19, 13)] 3 := ⟨w_802, w_801, w_54, ⟨by decide +kernel, by decide +kernel, by decide +kernel⟩⟩

