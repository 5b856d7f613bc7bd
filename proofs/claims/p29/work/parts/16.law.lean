theorem sw_17 (x : Int32) : (x.toInt < 0 ∨ 16 < x.toInt) ∨ x = (0 : Int32) ∨ x = (1 : Int32) ∨ x = (2 : Int32) ∨ x = (3 : Int32) ∨ x = (4 : Int32) ∨ x = (5 : Int32) ∨ x = (6 : Int32) ∨ x = (7 : Int32) ∨ x = (8 : Int32) ∨ x = (9 : Int32) ∨ x = (10 : Int32) ∨ x = (11 : Int32) ∨ x = (12 : Int32) ∨ x = (13 : Int32) ∨ x = (14 : Int32) ∨ x = (15 : Int32) ∨ x = (16 : Int32) := by
  by_cases h1 : x.toInt < 0
  · exact Or.inl (Or.inl h1)
  by_cases h2 : 16 < x.toInt
  · exact Or.inl (Or.inr h2)
  have e : ∀ k : Int32, x.toInt = k.toInt → x = k := fun k h => Int32.toInt_inj.mp h
  have : x.toInt = 0 ∨ x.toInt = 1 ∨ x.toInt = 2 ∨ x.toInt = 3 ∨ x.toInt = 4 ∨ x.toInt = 5 ∨ x.toInt = 6 ∨ x.toInt = 7 ∨ x.toInt = 8 ∨ x.toInt = 9 ∨ x.toInt = 10 ∨ x.toInt = 11 ∨ x.toInt = 12 ∨ x.toInt = 13 ∨ x.toInt = 14 ∨ x.toInt = 15 ∨ x.toInt = 16 := by omega
  rcases this with h | h | h | h | h | h | h | h | h | h | h | h | h | h | h | h | h
  · exact Or.inr (Or.inl (e 0 h))
  · exact Or.inr (Or.inr (Or.inl (e 1 h)))
  · exact Or.inr (Or.inr (Or.inr (Or.inl (e 2 h))))
  · exact Or.inr (Or.inr (Or.inr (Or.inr (Or.inl (e 3 h)))))
  · exact Or.inr (Or.inr (Or.inr (Or.inr (Or.inr (Or.inl (e 4 h))))))
  · exact Or.inr (Or.inr (Or.inr (Or.inr (Or.inr (Or.inr (Or.inl (e 5 h)))))))
  · exact Or.inr (Or.inr (Or.inr (Or.inr (Or.inr (Or.inr (Or.inr (Or.inl (e 6 h))))))))
  · exact Or.inr (Or.inr (Or.inr (Or.inr (Or.inr (Or.inr (Or.inr (Or.inr (Or.inl (e 7 h)))))))))
  · exact Or.inr (Or.inr (Or.inr (Or.inr (Or.inr (Or.inr (Or.inr (Or.inr (Or.inr (Or.inl (e 8 h))))))))))
  · exact Or.inr (Or.inr (Or.inr (Or.inr (Or.inr (Or.inr (Or.inr (Or.inr (Or.inr (Or.inr (Or.inl (e 9 h)))))))))))
  · exact Or.inr (Or.inr (Or.inr (Or.inr (Or.inr (Or.inr (Or.inr (Or.inr (Or.inr (Or.inr (Or.inr (Or.inl (e 10 h))))))))))))
  · exact Or.inr (Or.inr (Or.inr (Or.inr (Or.inr (Or.inr (Or.inr (Or.inr (Or.inr (Or.inr (Or.inr (Or.inr (Or.inl (e 11 h)))))))))))))
  · exact Or.inr (Or.inr (Or.inr (Or.inr (Or.inr (Or.inr (Or.inr (Or.inr (Or.inr (Or.inr (Or.inr (Or.inr (Or.inr (Or.inl (e 12 h))))))))))))))
  · exact Or.inr (Or.inr (Or.inr (Or.inr (Or.inr (Or.inr (Or.inr (Or.inr (Or.inr (Or.inr (Or.inr (Or.inr (Or.inr (Or.inr (Or.inl (e 13 h)))))))))))))))
  · exact Or.inr (Or.inr (Or.inr (Or.inr (Or.inr (Or.inr (Or.inr (Or.inr (Or.inr (Or.inr (Or.inr (Or.inr (Or.inr (Or.inr (Or.inr (Or.inl (e 14 h))))))))))))))))
  · exact Or.inr (Or.inr (Or.inr (Or.inr (Or.inr (Or.inr (Or.inr (Or.inr (Or.inr (Or.inr (Or.inr (Or.inr (Or.inr (Or.inr (Or.inr (Or.inr (Or.inl (e 15 h)))))))))))))))))
  · exact Or.inr (Or.inr (Or.inr (Or.inr (Or.inr (Or.inr (Or.inr (Or.inr (Or.inr (Or.inr (Or.inr (Or.inr (Or.inr (Or.inr (Or.inr (Or.inr (Or.inr ((e 16 h))))))))))))))))))

def wp_L_cell (dS : Nat × Nat × (Nat → Int32)) (h : Hp) (p0 : Nat) (p1 : Int32) (post : Int32 → Prop) : Prop :=
(p0 = dS.1 ∧
 (∀ J27 : Int32 → Prop, (∀ (t27_0 : Int32), (post t27_0) → J27 t27_0) →
 (((nI dS.2.1) ≤ p1 →
 J27 (((7919 : Int32) * (p1 + (1447 : Int32))) * (p1 + (457 : Int32)))) ∧ (¬ ((nI dS.2.1) ≤ p1) →
 (p0 = dS.1 ∧
 (∃ j3 : Nat, p1 = nI j3 ∧ j3 < 2147483648 ∧ j3 < dS.2.1 ∧
 J27 (dS.2.2 j3)))))))
set_option maxHeartbeats 4000000 in
set_option maxRecDepth 100000 in
theorem m_L_cell {E : Ev} {l : Launch} (hl : l.stackTraces = false) {h : Hp} {p0 : Nat} {p1 : Int32} {post : Int32 → Prop} (hw : wp_L_cell (eS E) h p0 p1 post) : MT E l yL_cell cL_cell 2 (some .int) 0 0 0 0 h [.ref p0, .int p1] (puI h post) (pxN) := by
  refine MT.of (by decide) hl (Nat.le_of_ble_eq_true rfl) (fun p e s m args below meth c C => ?_)
  unfold wp_L_cell at hw
  have C : CX E p l s m args meth c cL_cell 2 "TaktLineLaw" "cell" (some .int) [] := C
  show WS E p l e (rmOf 0 0 0 0) s m args below meth c 2 (vx_MQ below (qcP E (puI h post)) (xcP E (pxN)) args s 0 0 (bsA E)) h 0 0 0 [(0, .ref p0), (1, .int p1)] []
  refine r_iload_n C dL_cell_0 rfl rfl ?_
  refine r_aload_n C dL_cell_1 rfl rfl ?_
  obtain ⟨g1, hw⟩ := hw
  refine a_Sl C g1 dL_cell_2 ?_
  replace hw := hw (fun (t27_0 : Int32) => WS E p l e (rmOf 0 0 0 0) s m args below meth c 2 (vx_MQ below (qcP E (puI h post)) (xcP E (pxN)) args s 0 0 (bsA E)) h 0 0 27 [] [.int t27_0]) (by
    intro t27_0 hv
    replace hw := hv
    clear hv
    exact r_iret C dL_cell_27 (by decide) (by decide) ⟨_, rfl, hw, rfl⟩
    )
  refine r_icmp_ge C 12 dL_cell_3 (by decide) (fun z2 => ?_) (fun z2 => ?_)
  · replace hw := hw.1 z2
    refine r_sipush (v := (7919 : Int32)) C dL_cell_12 (by decide) ?_
    refine r_iload_n C dL_cell_15 rfl rfl ?_
    refine r_sipush (v := (1447 : Int32)) C dL_cell_16 (by decide) ?_
    refine r_iadd C dL_cell_19 ?_
    refine r_imul C dL_cell_20 ?_
    refine r_iload_n C dL_cell_21 rfl rfl ?_
    refine r_sipush (v := (457 : Int32)) C dL_cell_22 (by decide) ?_
    refine r_iadd C dL_cell_25 ?_
    refine r_imul C dL_cell_26 ?_
    exact (r_subk hw trivial)
  · replace hw := hw.2 z2
    refine r_aload_n C dL_cell_6 rfl rfl ?_
    refine r_iload_n C dL_cell_7 rfl rfl ?_
    obtain ⟨g3, hw⟩ := hw
    obtain ⟨j3, f3, l3, k3, hw⟩ := hw
    refine a_S C g3 f3 l3 k3 dL_cell_8 ?_
    refine r_goto C 27 dL_cell_9 (by decide) ?_
    exact (r_subk hw trivial)
theorem v_L_cell : MS yL_cell cL_cell 2 (some .int) 2 := ⟨w_517, w_516, w_36, ⟨by decide +kernel, by decide +kernel, by decide +kernel⟩⟩

def wp_L_low (h : Hp) (p0 : Int32) (p1 : Int32) (post : Int32 → Prop) : Prop :=
((¬ p1 = 0) ∧
 post ((p0 &&& (2147483647 : Int32)) - (p0 &&& (2147483647 : Int32)) / p1 * p1))
set_option maxHeartbeats 4000000 in
set_option maxRecDepth 100000 in
theorem m_L_low {E : Ev} {l : Launch} (hl : l.stackTraces = false) {h : Hp} {p0 : Int32} {p1 : Int32} {post : Int32 → Prop} (hw : wp_L_low h p0 p1 post) : MT E l yL_low cL_low 2 (some .int) 0 0 0 0 h [.int p0, .int p1] (puI h post) (pxN) := by
  refine MT.of (by decide) hl (Nat.le_of_ble_eq_true rfl) (fun p e s m args below meth c C => ?_)
  unfold wp_L_low at hw
  have C : CX E p l s m args meth c cL_low 2 "TaktLineLaw" "low" (some .int) [] := C
  show WS E p l e (rmOf 0 0 0 0) s m args below meth c 2 (vx_MQ below (qcP E (puI h post)) (xcP E (pxN)) args s 0 0 (bsA E)) h 0 0 0 [(0, .int p0), (1, .int p1)] []
  refine r_iload_n C dL_low_0 rfl rfl ?_
  refine r_ldc C w_532 dL_low_1 ?_
  refine r_iand C dL_low_3 ?_
  refine r_iload_n C dL_low_4 rfl rfl ?_
  obtain ⟨q1, hw⟩ := hw
  refine r_irem C dL_low_5 q1 ?_
  exact r_iret C dL_low_6 (by decide) (by decide) ⟨_, rfl, hw, rfl⟩
theorem v_L_low : MS yL_low cL_low 2 (some .int) 2 := ⟨w_531, w_530, w_36, ⟨by decide +kernel, by decide +kernel, by decide +kernel⟩⟩

def wp_L_kind (h : Hp) (p0 : Nat) (p1 : Int32) (p2 : Int32) (p3 : Int32) (p4 : Int32) (p5 : Int32) (post : Int32 → Hp → Prop) : Prop :=
(hT h p0 = 7 ∧
 wp_X5_kind h p0 p1 p2 p3 p4 p5 (fun h1 =>
 post (0 : Int32) h1) (fun X h1 => (X = XB ∧ post (-99999 : Int32) h1) ∨ (X = XA ∧ post (-99999 : Int32) h1) ∨ (X = XS ∧ post (-99999 : Int32) h1)))
set_option maxHeartbeats 4000000 in
set_option maxRecDepth 100000 in
theorem m_L_kind {E : Ev} {l : Launch} (hl : l.stackTraces = false) {h : Hp} {p0 : Nat} {p1 : Int32} {p2 : Int32} {p3 : Int32} {p4 : Int32} {p5 : Int32} {post : Int32 → Hp → Prop} (hw : wp_L_kind h p0 p1 p2 p3 p4 p5 post) : MTW E l yL_kind cL_kind 7 (some .int) [(0, 12, 13, 14), (0, 12, 18, 17), (0, 12, 23, 19)] 9 169 2 12 h [.ref p0, .int p1, .int p2, .int p3, .int p4, .int p5] (poI post) (pxN) := by
  refine MTW.of (by decide) hl (Nat.le_of_ble_eq_true rfl) (fun p e s m args below meth c C => ?_)
  unfold wp_L_kind at hw
  have C : CX E p l s m args meth c cL_kind 7 "TaktLineLaw" "kind" (some .int) (tableOf [(0, 12, 13, 14), (0, 12, 18, 17), (0, 12, 23, 19)]) := C
  show WS E p l e (rmOf 9 2 12 169) s m args below meth c 7 (vx_MQ below (qcP E (poI post)) (xcP E (pxN)) args s 2 12 (bsA E)) h 0 0 0 [(0, .ref p0), (1, .int p1), (2, .int p2), (3, .int p3), (4, .int p4), (5, .int p5)] []
  refine r_aload_n C dL_kind_0 rfl rfl ?_
  refine r_iload_n C dL_kind_1 rfl rfl ?_
  refine r_iload_n C dL_kind_2 rfl rfl ?_
  refine r_iload_n C dL_kind_3 rfl rfl ?_
  refine r_iload C dL_kind_4 rfl ?_
  refine r_iload C dL_kind_6 rfl ?_
  obtain ⟨g2, hw⟩ := hw
  refine r_callV (As := [.int p1, .int p2, .int p3, .int p4, .int p5]) (st := []) C (m_X5_kind hl hw) v_X5_kind w_543 K7 g2 (by decide) ob7 rfl ⟨leb rfl, leb rfl⟩ ⟨leb rfl, leb rfl⟩ rfl (leb rfl) dL_kind_8 (fun X h1 hx => by
      replace hw := hx
      clear hx
      rcases hw with ⟨rfl, hv⟩ | ⟨rfl, hv⟩ | ⟨rfl, hv⟩
      · replace hw := hv
        clear hv
        refine r_catch C [] (tE 0 12 13 14) [tE 0 12 18 17, tE 0 12 23 19] rfl (fun z hz => by cases hz) (by decide) (by decide) w_521 (by decide +kernel) (fun q9 => ?_)
        refine r_astore C dL_kind_13 (by decide) [] trivial ?_
        refine r_ldc C w_564 dL_kind_15 ?_
        exact r_iret C dL_kind_17 (by decide) (by decide) ⟨_, rfl, hw⟩
      · replace hw := hv
        clear hv
        refine r_catch C [tE 0 12 13 14] (tE 0 12 18 17) [tE 0 12 23 19] rfl (fun z hz => by rcases List.mem_cons.mp hz with rfl | hz; exact ⟨by decide, _, w_521, by decide +kernel⟩; cases hz) (by decide) (by decide) w_541 (by decide +kernel) (fun q9 => ?_)
        refine r_astore C dL_kind_18 (by decide) [] trivial ?_
        refine r_ldc C w_564 dL_kind_20 ?_
        exact r_iret C dL_kind_22 (by decide) (by decide) ⟨_, rfl, hw⟩
      · replace hw := hv
        clear hv
        refine r_catch C [tE 0 12 13 14, tE 0 12 18 17] (tE 0 12 23 19) [] rfl (fun z hz => by rcases List.mem_cons.mp hz with rfl | hz; exact ⟨by decide, _, w_521, by decide +kernel⟩; rcases List.mem_cons.mp hz with rfl | hz; exact ⟨by decide, _, w_541, by decide +kernel⟩; cases hz) (by decide) (by decide) w_542 (by decide +kernel) (fun q9 => ?_)
        refine r_astore C dL_kind_23 (by decide) [] trivial ?_
        refine r_ldc C w_564 dL_kind_25 ?_
        exact r_iret C dL_kind_27 (by decide) (by decide) ⟨_, rfl, hw⟩) (kkV (K := fun hK sK => WS E p l e (rmOf 9 2 12 169) s m args below meth c 7 (vx_MQ below (qcP E (poI post)) (xcP E (pxN)) args s 2 12 (bsA E)) hK (0 + 2) (0 + 12) (8 + 3) [(0, .ref p0), (1, .int p1), (2, .int p2), (3, .int p3), (4, .int p4), (5, .int p5)] sK) (fun h1 hv => ?_))
  replace hw := hv
  clear hv
  refine r_iconst (v := (0 : Int32)) C dL_kind_11 (by decide) ?_
  exact r_iret C dL_kind_12 (by decide) (by decide) ⟨_, rfl, hw⟩
theorem v_L_kind : MSW yL_kind cL_kind 7 (some .int) [(0, 12, 13, 14), (0, 12, 18, 17), (0, 12, 23, 19)] 6 := ⟨w_540, w_539, w_36, ⟨by decide +kernel, by decide +kernel, by decide +kernel⟩⟩

def wp_L_lot (dE : Nat) (h : Hp) (p0 : Nat) (p1 : Int32) (p2 : Int32) (p3 : Int32) (post : Int32 → Hp → Prop) : Prop :=
(hT h p0 = 7 ∧
 wp_X5_lot dE h p0 p1 p2 p3 (fun x1 h1 =>
 post x1 h1) (fun X h1 => (X = XB ∧ post (-99999 : Int32) h1) ∨ (X = XA ∧ post (-99999 : Int32) h1) ∨ (X = XS ∧ post (-99999 : Int32) h1)))
set_option maxHeartbeats 4000000 in
set_option maxRecDepth 100000 in
theorem m_L_lot {E : Ev} {l : Launch} (hl : l.stackTraces = false) {h : Hp} {p0 : Nat} {p1 : Int32} {p2 : Int32} {p3 : Int32} {post : Int32 → Hp → Prop} (hw : wp_L_lot (eE E) h p0 p1 p2 p3 post) : MTW E l yL_lot cL_lot 5 (some .int) [(0, 7, 8, 14), (0, 7, 13, 17), (0, 7, 18, 19)] 8 195 3 60 h [.ref p0, .int p1, .int p2, .int p3] (poI post) (pxN) := by
  refine MTW.of (by decide) hl (Nat.le_of_ble_eq_true rfl) (fun p e s m args below meth c C => ?_)
  unfold wp_L_lot at hw
  have C : CX E p l s m args meth c cL_lot 5 "TaktLineLaw" "lot" (some .int) (tableOf [(0, 7, 8, 14), (0, 7, 13, 17), (0, 7, 18, 19)]) := C
  show WS E p l e (rmOf 8 3 60 195) s m args below meth c 5 (vx_MQ below (qcP E (poI post)) (xcP E (pxN)) args s 3 60 (bsA E)) h 0 0 0 [(0, .ref p0), (1, .int p1), (2, .int p2), (3, .int p3)] []
  refine r_aload_n C dL_lot_0 rfl rfl ?_
  refine r_iload_n C dL_lot_1 rfl rfl ?_
  refine r_iload_n C dL_lot_2 rfl rfl ?_
  refine r_iload_n C dL_lot_3 rfl rfl ?_
  obtain ⟨g2, hw⟩ := hw
  refine r_callV (As := [.int p1, .int p2, .int p3]) (st := []) C (m_X5_lot hl hw) v_X5_lot w_568 K7 g2 (by decide) ob7 rfl ⟨leb rfl, leb rfl⟩ ⟨leb rfl, leb rfl⟩ rfl (leb rfl) dL_lot_4 (fun X h1 hx => by
      replace hw := hx
      clear hx
      rcases hw with ⟨rfl, hv⟩ | ⟨rfl, hv⟩ | ⟨rfl, hv⟩
      · replace hw := hv
        clear hv
        refine r_catch C [] (tE 0 7 8 14) [tE 0 7 13 17, tE 0 7 18 19] rfl (fun z hz => by cases hz) (by decide) (by decide) w_521 (by decide +kernel) (fun q9 => ?_)
        refine r_astore C dL_lot_8 (by decide) [] trivial ?_
        refine r_ldc C w_564 dL_lot_10 ?_
        exact r_iret C dL_lot_12 (by decide) (by decide) ⟨_, rfl, hw⟩
      · replace hw := hv
        clear hv
        refine r_catch C [tE 0 7 8 14] (tE 0 7 13 17) [tE 0 7 18 19] rfl (fun z hz => by rcases List.mem_cons.mp hz with rfl | hz; exact ⟨by decide, _, w_521, by decide +kernel⟩; cases hz) (by decide) (by decide) w_541 (by decide +kernel) (fun q9 => ?_)
        refine r_astore C dL_lot_13 (by decide) [] trivial ?_
        refine r_ldc C w_564 dL_lot_15 ?_
        exact r_iret C dL_lot_17 (by decide) (by decide) ⟨_, rfl, hw⟩
      · replace hw := hv
        clear hv
        refine r_catch C [tE 0 7 8 14, tE 0 7 13 17] (tE 0 7 18 19) [] rfl (fun z hz => by rcases List.mem_cons.mp hz with rfl | hz; exact ⟨by decide, _, w_521, by decide +kernel⟩; rcases List.mem_cons.mp hz with rfl | hz; exact ⟨by decide, _, w_541, by decide +kernel⟩; cases hz) (by decide) (by decide) w_542 (by decide +kernel) (fun q9 => ?_)
        refine r_astore C dL_lot_18 (by decide) [] trivial ?_
        refine r_ldc C w_564 dL_lot_20 ?_
        exact r_iret C dL_lot_22 (by decide) (by decide) ⟨_, rfl, hw⟩) (kkI (K := fun hK sK => WS E p l e (rmOf 8 3 60 195) s m args below meth c 5 (vx_MQ below (qcP E (poI post)) (xcP E (pxN)) args s 3 60 (bsA E)) hK (0 + 3) (0 + 60) (4 + 3) [(0, .ref p0), (1, .int p1), (2, .int p2), (3, .int p3)] sK) (fun x1 h1 hv => ?_))
  replace hw := hv
  clear hv
  exact r_iret C dL_lot_7 (by decide) (by decide) ⟨_, rfl, hw⟩
theorem v_L_lot : MSW yL_lot cL_lot 5 (some .int) [(0, 7, 8, 14), (0, 7, 13, 17), (0, 7, 18, 19)] 4 := ⟨w_567, w_566, w_36, ⟨by decide +kernel, by decide +kernel, by decide +kernel⟩⟩

def wp_L_recall (h : Hp) (p0 : Nat) (p1 : Int32) (post : Int32 → Hp → Prop) : Prop :=
(hT h p0 = 7 ∧
 wp_X5_recall h p0 p1 (fun x1 h1 =>
 post x1 h1) (fun X h1 => (X = XB ∧ post (-99999 : Int32) h1) ∨ (X = XS ∧ post (-99999 : Int32) h1)))
set_option maxHeartbeats 4000000 in
set_option maxRecDepth 100000 in
theorem m_L_recall {E : Ev} {l : Launch} (hl : l.stackTraces = false) {h : Hp} {p0 : Nat} {p1 : Int32} {post : Int32 → Hp → Prop} (hw : wp_L_recall h p0 p1 post) : MTW E l yL_recall cL_recall 3 (some .int) [(0, 5, 6, 14), (0, 5, 10, 19)] 8 145 2 12 h [.ref p0, .int p1] (poI post) (pxN) := by
  refine MTW.of (by decide) hl (Nat.le_of_ble_eq_true rfl) (fun p e s m args below meth c C => ?_)
  unfold wp_L_recall at hw
  have C : CX E p l s m args meth c cL_recall 3 "TaktLineLaw" "recall" (some .int) (tableOf [(0, 5, 6, 14), (0, 5, 10, 19)]) := C
  show WS E p l e (rmOf 8 2 12 145) s m args below meth c 3 (vx_MQ below (qcP E (poI post)) (xcP E (pxN)) args s 2 12 (bsA E)) h 0 0 0 [(0, .ref p0), (1, .int p1)] []
  refine r_aload_n C dL_recall_0 rfl rfl ?_
  refine r_iload_n C dL_recall_1 rfl rfl ?_
  obtain ⟨g2, hw⟩ := hw
  refine r_callV (As := [.int p1]) (st := []) C (m_X5_recall hl hw) v_X5_recall w_604 K7 g2 (by decide) ob7 rfl ⟨leb rfl, leb rfl⟩ ⟨leb rfl, leb rfl⟩ rfl (leb rfl) dL_recall_2 (fun X h1 hx => by
      replace hw := hx
      clear hx
      rcases hw with ⟨rfl, hv⟩ | ⟨rfl, hv⟩
      · replace hw := hv
        clear hv
        refine r_catch C [] (tE 0 5 6 14) [tE 0 5 10 19] rfl (fun z hz => by cases hz) (by decide) (by decide) w_521 (by decide +kernel) (fun q9 => ?_)
        refine r_astore_n C dL_recall_6 rfl (by decide) [] trivial ?_
        refine r_ldc C w_564 dL_recall_7 ?_
        exact r_iret C dL_recall_9 (by decide) (by decide) ⟨_, rfl, hw⟩
      · replace hw := hv
        clear hv
        refine r_catch C [tE 0 5 6 14] (tE 0 5 10 19) [] rfl (fun z hz => by rcases List.mem_cons.mp hz with rfl | hz; exact ⟨by decide, _, w_521, by decide +kernel⟩; cases hz) (by decide) (by decide) w_542 (by decide +kernel) (fun q9 => ?_)
        refine r_astore_n C dL_recall_10 rfl (by decide) [] trivial ?_
        refine r_ldc C w_564 dL_recall_11 ?_
        exact r_iret C dL_recall_13 (by decide) (by decide) ⟨_, rfl, hw⟩) (kkI (K := fun hK sK => WS E p l e (rmOf 8 2 12 145) s m args below meth c 3 (vx_MQ below (qcP E (poI post)) (xcP E (pxN)) args s 2 12 (bsA E)) hK (0 + 2) (0 + 12) (2 + 3) [(0, .ref p0), (1, .int p1)] sK) (fun x1 h1 hv => ?_))
  replace hw := hv
  clear hv
  exact r_iret C dL_recall_5 (by decide) (by decide) ⟨_, rfl, hw⟩
theorem v_L_recall : MSW yL_recall cL_recall 3 (some .int) [(0, 5, 6, 14), (0, 5, 10, 19)] 2 := ⟨w_603, w_602, w_36, ⟨by decide +kernel, by decide +kernel, by decide +kernel⟩⟩

def wp_L_order (dE : Nat) (h : Hp) (p0 : Nat) (p1 : Int32) (post : Int32 → Hp → Prop) : Prop :=
(hT h p0 = 7 ∧
 wp_X5_order dE h p0 p1 (fun x1 h1 =>
 post x1 h1) (fun X h1 => (X = XA ∧ post (-99999 : Int32) h1) ∨ (X = XS ∧ post (-99999 : Int32) h1)))
set_option maxHeartbeats 4000000 in
set_option maxRecDepth 100000 in
theorem m_L_order {E : Ev} {l : Launch} (hl : l.stackTraces = false) {h : Hp} {p0 : Nat} {p1 : Int32} {post : Int32 → Hp → Prop} (hw : wp_L_order (eE E) h p0 p1 post) : MTW E l yL_order cL_order 3 (some .int) [(0, 5, 6, 17), (0, 5, 10, 19)] 8 193 3 68 h [.ref p0, .int p1] (poI post) (pxN) := by
  refine MTW.of (by decide) hl (Nat.le_of_ble_eq_true rfl) (fun p e s m args below meth c C => ?_)
  unfold wp_L_order at hw
  have C : CX E p l s m args meth c cL_order 3 "TaktLineLaw" "order" (some .int) (tableOf [(0, 5, 6, 17), (0, 5, 10, 19)]) := C
  show WS E p l e (rmOf 8 3 68 193) s m args below meth c 3 (vx_MQ below (qcP E (poI post)) (xcP E (pxN)) args s 3 68 (bsA E)) h 0 0 0 [(0, .ref p0), (1, .int p1)] []
  refine r_aload_n C dL_order_0 rfl rfl ?_
  refine r_iload_n C dL_order_1 rfl rfl ?_
  obtain ⟨g2, hw⟩ := hw
  refine r_callV (As := [.int p1]) (st := []) C (m_X5_order hl hw) v_X5_order w_621 K7 g2 (by decide) ob7 rfl ⟨leb rfl, leb rfl⟩ ⟨leb rfl, leb rfl⟩ rfl (leb rfl) dL_order_2 (fun X h1 hx => by
      replace hw := hx
      clear hx
      rcases hw with ⟨rfl, hv⟩ | ⟨rfl, hv⟩
      · replace hw := hv
        clear hv
        refine r_catch C [] (tE 0 5 6 17) [tE 0 5 10 19] rfl (fun z hz => by cases hz) (by decide) (by decide) w_541 (by decide +kernel) (fun q9 => ?_)
        refine r_astore_n C dL_order_6 rfl (by decide) [] trivial ?_
        refine r_ldc C w_564 dL_order_7 ?_
        exact r_iret C dL_order_9 (by decide) (by decide) ⟨_, rfl, hw⟩
      · replace hw := hv
        clear hv
        refine r_catch C [tE 0 5 6 17] (tE 0 5 10 19) [] rfl (fun z hz => by rcases List.mem_cons.mp hz with rfl | hz; exact ⟨by decide, _, w_541, by decide +kernel⟩; cases hz) (by decide) (by decide) w_542 (by decide +kernel) (fun q9 => ?_)
        refine r_astore_n C dL_order_10 rfl (by decide) [] trivial ?_
        refine r_ldc C w_564 dL_order_11 ?_
        exact r_iret C dL_order_13 (by decide) (by decide) ⟨_, rfl, hw⟩) (kkI (K := fun hK sK => WS E p l e (rmOf 8 3 68 193) s m args below meth c 3 (vx_MQ below (qcP E (poI post)) (xcP E (pxN)) args s 3 68 (bsA E)) hK (0 + 3) (0 + 68) (2 + 3) [(0, .ref p0), (1, .int p1)] sK) (fun x1 h1 hv => ?_))
  replace hw := hv
  clear hv
  exact r_iret C dL_order_5 (by decide) (by decide) ⟨_, rfl, hw⟩
theorem v_L_order : MSW yL_order cL_order 3 (some .int) [(0, 5, 6, 17), (0, 5, 10, 19)] 2 := ⟨w_620, w_619, w_36, ⟨by decide +kernel, by decide +kernel, by decide +kernel⟩⟩

def wp_L_takt (dE : Nat) (mc ms : Nat) (h : Hp) (p0 : Nat) (p1 : Int32) (post : Int32 → Hp → Prop) : Prop :=
(∃ k1 n1 : Nat,
 (0 + k1 ≤ mc ∧
 (0 + n1 ≤ ms ∧
 (hT h p0 = 7 ∧
 wp_X5_takt dE k1 n1 h p0 p1 (fun x1 h1 =>
 post x1 h1) (fun X h1 => (X = XA ∧ post (-99999 : Int32) h1))))))
set_option maxHeartbeats 4000000 in
set_option maxRecDepth 100000 in
theorem m_L_takt {E : Ev} {l : Launch} (hl : l.stackTraces = false) {mc ms : Nat} {h : Hp} {p0 : Nat} {p1 : Int32} {post : Int32 → Hp → Prop} (hw : wp_L_takt (eE E) mc ms h p0 p1 post) : MTW E l yL_takt cL_takt 3 (some .int) [(0, 5, 6, 17)] 11 262 mc ms h [.ref p0, .int p1] (poI post) (pxN) := by
  refine MTW.of (by decide) hl (Nat.le_of_ble_eq_true rfl) (fun p e s m args below meth c C => ?_)
  unfold wp_L_takt at hw
  have C : CX E p l s m args meth c cL_takt 3 "TaktLineLaw" "takt" (some .int) (tableOf [(0, 5, 6, 17)]) := C
  show WS E p l e (rmOf 11 mc ms 262) s m args below meth c 3 (vx_MQ below (qcP E (poI post)) (xcP E (pxN)) args s mc ms (bsA E)) h 0 0 0 [(0, .ref p0), (1, .int p1)] []
  refine r_aload_n C dL_takt_0 rfl rfl ?_
  refine r_iload_n C dL_takt_1 rfl rfl ?_
  obtain ⟨k1, n1, hw⟩ := hw
  obtain ⟨b2, d2, hw⟩ := hw
  obtain ⟨g3, hw⟩ := hw
  refine r_callV (As := [.int p1]) (st := []) C (m_X5_takt hl hw) v_X5_takt w_149 K7 g3 (by decide) ob7 rfl ⟨leb rfl, leb rfl⟩ ⟨b2, d2⟩ rfl (leb rfl) dL_takt_2 (fun X h1 hx => by
      replace hw := hx
      clear hx
      rcases hw with ⟨rfl, hv⟩
      · replace hw := hv
        clear hv
        refine r_catch C [] (tE 0 5 6 17) [] rfl (fun z hz => by cases hz) (by decide) (by decide) w_541 (by decide +kernel) (fun q9 => ?_)
        refine r_astore_n C dL_takt_6 rfl (by decide) [] trivial ?_
        refine r_ldc C w_564 dL_takt_7 ?_
        exact r_iret C dL_takt_9 b2 d2 ⟨_, rfl, hw⟩) (kkI (K := fun hK sK => WS E p l e (rmOf 11 mc ms 262) s m args below meth c 3 (vx_MQ below (qcP E (poI post)) (xcP E (pxN)) args s mc ms (bsA E)) hK (0 + k1) (0 + n1) (2 + 3) [(0, .ref p0), (1, .int p1)] sK) (fun x1 h1 hv => ?_))
  replace hw := hv
  clear hv
  exact r_iret C dL_takt_5 b2 d2 ⟨_, rfl, hw⟩
theorem v_L_takt : MSW yL_takt cL_takt 3 (some .int) [(0, 5, 6, 17)] 2 := ⟨w_704, w_703, w_36, ⟨by decide +kernel, by decide +kernel, by decide +kernel⟩⟩

def wp_L_fault (h : Hp) (p0 : Nat) (p1 : Int32) (post : Int32 → Hp → Prop) : Prop :=
(hT h p0 = 7 ∧
 wp_X5_fault h p0 p1 (fun x1 h1 =>
 (∀ J13 : Int32 → Prop, (∀ (t13_0 : Int32), (post t13_0 h1) → J13 t13_0) →
 ((x1 = 0 →
 J13 (0 : Int32)) ∧ (¬ (x1 = 0) →
 J13 (1 : Int32))))) (fun X h1 => (X = XB ∧ post (-99999 : Int32) h1) ∨ (X = XS ∧ post (-99999 : Int32) h1)))
set_option maxHeartbeats 4000000 in
set_option maxRecDepth 100000 in
theorem m_L_fault {E : Ev} {l : Launch} (hl : l.stackTraces = false) {h : Hp} {p0 : Nat} {p1 : Int32} {post : Int32 → Hp → Prop} (hw : wp_L_fault h p0 p1 post) : MTW E l yL_fault cL_fault 3 (some .int) [(0, 13, 14, 14), (0, 13, 18, 19)] 9 167 2 12 h [.ref p0, .int p1] (poI post) (pxN) := by
  refine MTW.of (by decide) hl (Nat.le_of_ble_eq_true rfl) (fun p e s m args below meth c C => ?_)
  unfold wp_L_fault at hw
  have C : CX E p l s m args meth c cL_fault 3 "TaktLineLaw" "fault" (some .int) (tableOf [(0, 13, 14, 14), (0, 13, 18, 19)]) := C
  show WS E p l e (rmOf 9 2 12 167) s m args below meth c 3 (vx_MQ below (qcP E (poI post)) (xcP E (pxN)) args s 2 12 (bsA E)) h 0 0 0 [(0, .ref p0), (1, .int p1)] []
  refine r_aload_n C dL_fault_0 rfl rfl ?_
  refine r_iload_n C dL_fault_1 rfl rfl ?_
  obtain ⟨g2, hw⟩ := hw
  refine r_callV (As := [.int p1]) (st := []) C (m_X5_fault hl hw) v_X5_fault w_674 K7 g2 (by decide) ob7 rfl ⟨leb rfl, leb rfl⟩ ⟨leb rfl, leb rfl⟩ rfl (leb rfl) dL_fault_2 (fun X h1 hx => by
      replace hw := hx
      clear hx
      rcases hw with ⟨rfl, hv⟩ | ⟨rfl, hv⟩
      · replace hw := hv
        clear hv
        refine r_catch C [] (tE 0 13 14 14) [tE 0 13 18 19] rfl (fun z hz => by cases hz) (by decide) (by decide) w_521 (by decide +kernel) (fun q9 => ?_)
        refine r_astore_n C dL_fault_14 rfl (by decide) [] trivial ?_
        refine r_ldc C w_564 dL_fault_15 ?_
        exact r_iret C dL_fault_17 (by decide) (by decide) ⟨_, rfl, hw⟩
      · replace hw := hv
        clear hv
        refine r_catch C [tE 0 13 14 14] (tE 0 13 18 19) [] rfl (fun z hz => by rcases List.mem_cons.mp hz with rfl | hz; exact ⟨by decide, _, w_521, by decide +kernel⟩; cases hz) (by decide) (by decide) w_542 (by decide +kernel) (fun q9 => ?_)
        refine r_astore_n C dL_fault_18 rfl (by decide) [] trivial ?_
        refine r_ldc C w_564 dL_fault_19 ?_
        exact r_iret C dL_fault_21 (by decide) (by decide) ⟨_, rfl, hw⟩) (kkI (K := fun hK sK => WS E p l e (rmOf 9 2 12 167) s m args below meth c 3 (vx_MQ below (qcP E (poI post)) (xcP E (pxN)) args s 2 12 (bsA E)) hK (0 + 2) (0 + 12) (2 + 3) [(0, .ref p0), (1, .int p1)] sK) (fun x1 h1 hv => ?_))
  replace hw := hv
  clear hv
  replace hw := hw (fun (t13_0 : Int32) => WS E p l e (rmOf 9 2 12 167) s m args below meth c 3 (vx_MQ below (qcP E (poI post)) (xcP E (pxN)) args s 2 12 (bsA E)) h1 2 12 13 [] [.int t13_0]) (by
    intro t13_0 hv
    replace hw := hv
    clear hv
    exact r_iret C dL_fault_13 (by decide) (by decide) ⟨_, rfl, hw⟩
    )
  refine r_if_eq C 12 dL_fault_5 (by decide) (fun z3 => ?_) (fun z3 => ?_)
  · replace hw := hw.1 z3
    refine r_iconst (v := (0 : Int32)) C dL_fault_12 (by decide) ?_
    exact (r_subk hw trivial)
  · replace hw := hw.2 z3
    refine r_iconst (v := (1 : Int32)) C dL_fault_8 (by decide) ?_
    refine r_goto C 13 dL_fault_9 (by decide) ?_
    exact (r_subk hw trivial)
theorem v_L_fault : MSW yL_fault cL_fault 3 (some .int) [(0, 13, 14, 14), (0, 13, 18, 19)] 2 := ⟨w_673, w_672, w_36, ⟨by decide +kernel, by decide +kernel, by decide +kernel⟩⟩

def wp_L_build (dE : Nat) (h : Hp) (p0 : Nat) (p1 : Int32) (post : Int32 → Hp → Prop) : Prop :=
(hT h p0 = 7 ∧
 wp_X5_build dE h p0 p1 (fun x1 h1 =>
 post x1 h1) (fun X h1 => (X = XB ∧ post (-99999 : Int32) h1) ∨ (X = XS ∧ post (-99999 : Int32) h1)))
set_option maxHeartbeats 4000000 in
set_option maxRecDepth 100000 in
theorem m_L_build {E : Ev} {l : Launch} (hl : l.stackTraces = false) {h : Hp} {p0 : Nat} {p1 : Int32} {post : Int32 → Hp → Prop} (hw : wp_L_build (eE E) h p0 p1 post) : MTW E l yL_build cL_build 3 (some .int) [(0, 5, 6, 14), (0, 5, 10, 19)] 9 194 4 68 h [.ref p0, .int p1] (poI post) (pxN) := by
  refine MTW.of (by decide) hl (Nat.le_of_ble_eq_true rfl) (fun p e s m args below meth c C => ?_)
  unfold wp_L_build at hw
  have C : CX E p l s m args meth c cL_build 3 "TaktLineLaw" "build" (some .int) (tableOf [(0, 5, 6, 14), (0, 5, 10, 19)]) := C
  show WS E p l e (rmOf 9 4 68 194) s m args below meth c 3 (vx_MQ below (qcP E (poI post)) (xcP E (pxN)) args s 4 68 (bsA E)) h 0 0 0 [(0, .ref p0), (1, .int p1)] []
  refine r_aload_n C dL_build_0 rfl rfl ?_
  refine r_iload_n C dL_build_1 rfl rfl ?_
  obtain ⟨g2, hw⟩ := hw
  refine r_callV (As := [.int p1]) (st := []) C (m_X5_build hl hw) v_X5_build w_443 K7 g2 (by decide) ob7 rfl ⟨leb rfl, leb rfl⟩ ⟨leb rfl, leb rfl⟩ rfl (leb rfl) dL_build_2 (fun X h1 hx => by
      replace hw := hx
      clear hx
      rcases hw with ⟨rfl, hv⟩ | ⟨rfl, hv⟩
      · replace hw := hv
        clear hv
        refine r_catch C [] (tE 0 5 6 14) [tE 0 5 10 19] rfl (fun z hz => by cases hz) (by decide) (by decide) w_521 (by decide +kernel) (fun q9 => ?_)
        refine r_astore_n C dL_build_6 rfl (by decide) [] trivial ?_
        refine r_ldc C w_564 dL_build_7 ?_
        exact r_iret C dL_build_9 (by decide) (by decide) ⟨_, rfl, hw⟩
      · replace hw := hv
        clear hv
        refine r_catch C [tE 0 5 6 14] (tE 0 5 10 19) [] rfl (fun z hz => by rcases List.mem_cons.mp hz with rfl | hz; exact ⟨by decide, _, w_521, by decide +kernel⟩; cases hz) (by decide) (by decide) w_542 (by decide +kernel) (fun q9 => ?_)
        refine r_astore_n C dL_build_10 rfl (by decide) [] trivial ?_
        refine r_ldc C w_564 dL_build_11 ?_
        exact r_iret C dL_build_13 (by decide) (by decide) ⟨_, rfl, hw⟩) (kkI (K := fun hK sK => WS E p l e (rmOf 9 4 68 194) s m args below meth c 3 (vx_MQ below (qcP E (poI post)) (xcP E (pxN)) args s 4 68 (bsA E)) hK (0 + 4) (0 + 68) (2 + 3) [(0, .ref p0), (1, .int p1)] sK) (fun x1 h1 hv => ?_))
  replace hw := hv
  clear hv
  exact r_iret C dL_build_5 (by decide) (by decide) ⟨_, rfl, hw⟩
theorem v_L_build : MSW yL_build cL_build 3 (some .int) [(0, 5, 6, 14), (0, 5, 10, 19)] 2 := ⟨w_681, w_680, w_36, ⟨by decide +kernel, by decide +kernel, by decide +kernel⟩⟩

def wp_L_sign (h : Hp) (p0 : Nat) (p1 : Int32) (p2 : Int32) (post : Int32 → Hp → Prop) : Prop :=
(hT h p0 = 7 ∧
 wp_X5_sign h p0 p1 p2 (fun x1 h1 =>
 (∀ J14 : Int32 → Prop, (∀ (t14_0 : Int32), (post t14_0 h1) → J14 t14_0) →
 ((x1 = 0 →
 J14 (0 : Int32)) ∧ (¬ (x1 = 0) →
 J14 (1 : Int32))))) (fun X h1 => (X = XB ∧ post (-99999 : Int32) h1)))
set_option maxHeartbeats 4000000 in
set_option maxRecDepth 100000 in
theorem m_L_sign {E : Ev} {l : Launch} (hl : l.stackTraces = false) {h : Hp} {p0 : Nat} {p1 : Int32} {p2 : Int32} {post : Int32 → Hp → Prop} (hw : wp_L_sign h p0 p1 p2 post) : MTW E l yL_sign cL_sign 4 (some .int) [(0, 14, 15, 14)] 8 147 2 12 h [.ref p0, .int p1, .int p2] (poI post) (pxN) := by
  refine MTW.of (by decide) hl (Nat.le_of_ble_eq_true rfl) (fun p e s m args below meth c C => ?_)
  unfold wp_L_sign at hw
  have C : CX E p l s m args meth c cL_sign 4 "TaktLineLaw" "sign" (some .int) (tableOf [(0, 14, 15, 14)]) := C
  show WS E p l e (rmOf 8 2 12 147) s m args below meth c 4 (vx_MQ below (qcP E (poI post)) (xcP E (pxN)) args s 2 12 (bsA E)) h 0 0 0 [(0, .ref p0), (1, .int p1), (2, .int p2)] []
  refine r_aload_n C dL_sign_0 rfl rfl ?_
  refine r_iload_n C dL_sign_1 rfl rfl ?_
  refine r_iload_n C dL_sign_2 rfl rfl ?_
  obtain ⟨g2, hw⟩ := hw
  refine r_callV (As := [.int p1, .int p2]) (st := []) C (m_X5_sign hl hw) v_X5_sign w_685 K7 g2 (by decide) ob7 rfl ⟨leb rfl, leb rfl⟩ ⟨leb rfl, leb rfl⟩ rfl (leb rfl) dL_sign_3 (fun X h1 hx => by
      replace hw := hx
      clear hx
      rcases hw with ⟨rfl, hv⟩
      · replace hw := hv
        clear hv
        refine r_catch C [] (tE 0 14 15 14) [] rfl (fun z hz => by cases hz) (by decide) (by decide) w_521 (by decide +kernel) (fun q9 => ?_)
        refine r_astore_n C dL_sign_15 rfl (by decide) [] trivial ?_
        refine r_ldc C w_564 dL_sign_16 ?_
        exact r_iret C dL_sign_18 (by decide) (by decide) ⟨_, rfl, hw⟩) (kkI (K := fun hK sK => WS E p l e (rmOf 8 2 12 147) s m args below meth c 4 (vx_MQ below (qcP E (poI post)) (xcP E (pxN)) args s 2 12 (bsA E)) hK (0 + 2) (0 + 12) (3 + 3) [(0, .ref p0), (1, .int p1), (2, .int p2)] sK) (fun x1 h1 hv => ?_))
  replace hw := hv
  clear hv
  replace hw := hw (fun (t14_0 : Int32) => WS E p l e (rmOf 8 2 12 147) s m args below meth c 4 (vx_MQ below (qcP E (poI post)) (xcP E (pxN)) args s 2 12 (bsA E)) h1 2 12 14 [] [.int t14_0]) (by
    intro t14_0 hv
    replace hw := hv
    clear hv
    exact r_iret C dL_sign_14 (by decide) (by decide) ⟨_, rfl, hw⟩
    )
  refine r_if_eq C 13 dL_sign_6 (by decide) (fun z3 => ?_) (fun z3 => ?_)
  · replace hw := hw.1 z3
    refine r_iconst (v := (0 : Int32)) C dL_sign_13 (by decide) ?_
    exact (r_subk hw trivial)
  · replace hw := hw.2 z3
    refine r_iconst (v := (1 : Int32)) C dL_sign_9 (by decide) ?_
    refine r_goto C 14 dL_sign_10 (by decide) ?_
    exact (r_subk hw trivial)
theorem v_L_sign : MSW yL_sign cL_sign 4 (some .int) [(0, 14, 15, 14)] 3 := ⟨w_684, w_683, w_36, ⟨by decide +kernel, by decide +kernel, by decide +kernel⟩⟩

def wp_L_flash (h : Hp) (p0 : Nat) (p1 : Int32) (p2 : Int32) (post : Int32 → Hp → Prop) : Prop :=
(hT h p0 = 7 ∧
 wp_X5_flash h p0 p1 p2 (fun x1 h1 =>
 post x1 h1) (fun X h1 => (X = XB ∧ post (-99999 : Int32) h1) ∨ (X = XS ∧ post (-99999 : Int32) h1)))
set_option maxHeartbeats 4000000 in
set_option maxRecDepth 100000 in
theorem m_L_flash {E : Ev} {l : Launch} (hl : l.stackTraces = false) {h : Hp} {p0 : Nat} {p1 : Int32} {p2 : Int32} {post : Int32 → Hp → Prop} (hw : wp_L_flash h p0 p1 p2 post) : MTW E l yL_flash cL_flash 4 (some .int) [(0, 6, 7, 14), (0, 6, 11, 19)] 9 169 3 18 h [.ref p0, .int p1, .int p2] (poI post) (pxN) := by
  refine MTW.of (by decide) hl (Nat.le_of_ble_eq_true rfl) (fun p e s m args below meth c C => ?_)
  unfold wp_L_flash at hw
  have C : CX E p l s m args meth c cL_flash 4 "TaktLineLaw" "flash" (some .int) (tableOf [(0, 6, 7, 14), (0, 6, 11, 19)]) := C
  show WS E p l e (rmOf 9 3 18 169) s m args below meth c 4 (vx_MQ below (qcP E (poI post)) (xcP E (pxN)) args s 3 18 (bsA E)) h 0 0 0 [(0, .ref p0), (1, .int p1), (2, .int p2)] []
  refine r_aload_n C dL_flash_0 rfl rfl ?_
  refine r_iload_n C dL_flash_1 rfl rfl ?_
  refine r_iload_n C dL_flash_2 rfl rfl ?_
  obtain ⟨g2, hw⟩ := hw
  refine r_callV (As := [.int p1, .int p2]) (st := []) C (m_X5_flash hl hw) v_X5_flash w_697 K7 g2 (by decide) ob7 rfl ⟨leb rfl, leb rfl⟩ ⟨leb rfl, leb rfl⟩ rfl (leb rfl) dL_flash_3 (fun X h1 hx => by
      replace hw := hx
      clear hx
      rcases hw with ⟨rfl, hv⟩ | ⟨rfl, hv⟩
      · replace hw := hv
        clear hv
        refine r_catch C [] (tE 0 6 7 14) [tE 0 6 11 19] rfl (fun z hz => by cases hz) (by decide) (by decide) w_521 (by decide +kernel) (fun q9 => ?_)
        refine r_astore_n C dL_flash_7 rfl (by decide) [] trivial ?_
        refine r_ldc C w_564 dL_flash_8 ?_
        exact r_iret C dL_flash_10 (by decide) (by decide) ⟨_, rfl, hw⟩
      · replace hw := hv
        clear hv
        refine r_catch C [tE 0 6 7 14] (tE 0 6 11 19) [] rfl (fun z hz => by rcases List.mem_cons.mp hz with rfl | hz; exact ⟨by decide, _, w_521, by decide +kernel⟩; cases hz) (by decide) (by decide) w_542 (by decide +kernel) (fun q9 => ?_)
        refine r_astore_n C dL_flash_11 rfl (by decide) [] trivial ?_
        refine r_ldc C w_564 dL_flash_12 ?_
        exact r_iret C dL_flash_14 (by decide) (by decide) ⟨_, rfl, hw⟩) (kkI (K := fun hK sK => WS E p l e (rmOf 9 3 18 169) s m args below meth c 4 (vx_MQ below (qcP E (poI post)) (xcP E (pxN)) args s 3 18 (bsA E)) hK (0 + 3) (0 + 18) (3 + 3) [(0, .ref p0), (1, .int p1), (2, .int p2)] sK) (fun x1 h1 hv => ?_))
  replace hw := hv
  clear hv
  exact r_iret C dL_flash_6 (by decide) (by decide) ⟨_, rfl, hw⟩
theorem v_L_flash : MSW yL_flash cL_flash 4 (some .int) [(0, 6, 7, 14), (0, 6, 11, 19)] 3 := ⟨w_696, w_695, w_36, ⟨by decide +kernel, by decide +kernel, by decide +kernel⟩⟩

def wp_L_units (h : Hp) (p0 : Nat) (p1 : Int32) (post : Int32 → Prop) : Prop :=
(hT h p0 = 7 ∧
 wp_X5_units h p0 p1 (fun x1 =>
 post x1) (fun X => (X = XB ∧ post (-1 : Int32))))
set_option maxHeartbeats 4000000 in
set_option maxRecDepth 100000 in
theorem m_L_units {E : Ev} {l : Launch} (hl : l.stackTraces = false) {h : Hp} {p0 : Nat} {p1 : Int32} {post : Int32 → Prop} (hw : wp_L_units h p0 p1 post) : MTW E l yL_units cL_units 3 (some .int) [(0, 5, 6, 14)] 8 144 1 6 h [.ref p0, .int p1] (puI h post) (pxN) := by
  refine MTW.of (by decide) hl (Nat.le_of_ble_eq_true rfl) (fun p e s m args below meth c C => ?_)
  unfold wp_L_units at hw
  have C : CX E p l s m args meth c cL_units 3 "TaktLineLaw" "units" (some .int) (tableOf [(0, 5, 6, 14)]) := C
  show WS E p l e (rmOf 8 1 6 144) s m args below meth c 3 (vx_MQ below (qcP E (puI h post)) (xcP E (pxN)) args s 1 6 (bsA E)) h 0 0 0 [(0, .ref p0), (1, .int p1)] []
  refine r_aload_n C dL_units_0 rfl rfl ?_
  refine r_iload_n C dL_units_1 rfl rfl ?_
  obtain ⟨g2, hw⟩ := hw
  refine r_callV (As := [.int p1]) (st := []) C (m_X5_units hl hw) v_X5_units w_747 K7 g2 (by decide) ob7 rfl ⟨leb rfl, leb rfl⟩ ⟨leb rfl, leb rfl⟩ rfl (leb rfl) dL_units_2 (fun X h9 hx => by
      obtain ⟨hv, rfl⟩ := hx
      replace hw := hv
      clear hv
      rcases hw with ⟨rfl, hv⟩
      · replace hw := hv
        clear hv
        refine r_catch C [] (tE 0 5 6 14) [] rfl (fun z hz => by cases hz) (by decide) (by decide) w_521 (by decide +kernel) (fun q9 => ?_)
        refine r_astore_n C dL_units_6 rfl (by decide) [] trivial ?_
        refine r_iconst (v := (-1 : Int32)) C dL_units_7 (by decide) ?_
        exact r_iret C dL_units_8 (by decide) (by decide) ⟨_, rfl, hw, rfl⟩) (kpI (K := fun hK sK => WS E p l e (rmOf 8 1 6 144) s m args below meth c 3 (vx_MQ below (qcP E (puI h post)) (xcP E (pxN)) args s 1 6 (bsA E)) hK (0 + 1) (0 + 6) (2 + 3) [(0, .ref p0), (1, .int p1)] sK) (fun x1 hv => ?_))
  replace hw := hv
  clear hv
  exact r_iret C dL_units_5 (by decide) (by decide) ⟨_, rfl, hw, rfl⟩
theorem v_L_units : MSW yL_units cL_units 3 (some .int) [(0, 5, 6, 14)] 2 := ⟨w_746, w_745, w_36, ⟨by decide +kernel, by decide +kernel, by decide +kernel⟩⟩

def wp_L_whereIs (h : Hp) (p0 : Nat) (p1 : Int32) (post : Int32 → Prop) : Prop :=
(hT h p0 = 7 ∧
 wp_X5_whereIs h p0 p1 (fun x1 =>
 post x1) (fun X => (X = XB ∧ post (-1 : Int32))))
set_option maxHeartbeats 4000000 in
set_option maxRecDepth 100000 in
theorem m_L_whereIs {E : Ev} {l : Launch} (hl : l.stackTraces = false) {h : Hp} {p0 : Nat} {p1 : Int32} {post : Int32 → Prop} (hw : wp_L_whereIs h p0 p1 post) : MTW E l yL_whereIs cL_whereIs 3 (some .int) [(0, 5, 6, 14)] 9 165 1 6 h [.ref p0, .int p1] (puI h post) (pxN) := by
  refine MTW.of (by decide) hl (Nat.le_of_ble_eq_true rfl) (fun p e s m args below meth c C => ?_)
  unfold wp_L_whereIs at hw
  have C : CX E p l s m args meth c cL_whereIs 3 "TaktLineLaw" "whereIs" (some .int) (tableOf [(0, 5, 6, 14)]) := C
  show WS E p l e (rmOf 9 1 6 165) s m args below meth c 3 (vx_MQ below (qcP E (puI h post)) (xcP E (pxN)) args s 1 6 (bsA E)) h 0 0 0 [(0, .ref p0), (1, .int p1)] []
  refine r_aload_n C dL_whereIs_0 rfl rfl ?_
  refine r_iload_n C dL_whereIs_1 rfl rfl ?_
  obtain ⟨g2, hw⟩ := hw
  refine r_callV (As := [.int p1]) (st := []) C (m_X5_whereIs hl hw) v_X5_whereIs w_522 K7 g2 (by decide) ob7 rfl ⟨leb rfl, leb rfl⟩ ⟨leb rfl, leb rfl⟩ rfl (leb rfl) dL_whereIs_2 (fun X h9 hx => by
      obtain ⟨hv, rfl⟩ := hx
      replace hw := hv
      clear hv
      rcases hw with ⟨rfl, hv⟩
      · replace hw := hv
        clear hv
        refine r_catch C [] (tE 0 5 6 14) [] rfl (fun z hz => by cases hz) (by decide) (by decide) w_521 (by decide +kernel) (fun q9 => ?_)
        refine r_astore_n C dL_whereIs_6 rfl (by decide) [] trivial ?_
        refine r_iconst (v := (-1 : Int32)) C dL_whereIs_7 (by decide) ?_
        exact r_iret C dL_whereIs_8 (by decide) (by decide) ⟨_, rfl, hw, rfl⟩) (kpI (K := fun hK sK => WS E p l e (rmOf 9 1 6 165) s m args below meth c 3 (vx_MQ below (qcP E (puI h post)) (xcP E (pxN)) args s 1 6 (bsA E)) hK (0 + 1) (0 + 6) (2 + 3) [(0, .ref p0), (1, .int p1)] sK) (fun x1 hv => ?_))
  replace hw := hv
  clear hv
  exact r_iret C dL_whereIs_5 (by decide) (by decide) ⟨_, rfl, hw, rfl⟩
theorem v_L_whereIs : MSW yL_whereIs cL_whereIs 3 (some .int) [(0, 5, 6, 14)] 2 := ⟨w_520, w_519, w_36, ⟨by decide +kernel, by decide +kernel, by decide +kernel⟩⟩

def wp_L_act (dE : Nat) (mc ms : Nat) (h : Hp) (p0 : Nat) (p1 : Int32) (post : Int32 → Hp → Prop) (px : String → Hp → Prop) : Prop :=
wp_L_low h (p1 >>> ((24 : Int32) &&& 31)) (9 : Int32) (fun x1 =>
 (∀ J17 : Int32 → Prop, (∀ (t17_0 : Int32), (∀ J42 : Int32 → Prop, (∀ (t42_0 : Int32), (∀ J68 : Int32 → Prop, (∀ (t68_0 : Int32), (∀ J97 : Int32 → Prop, (∀ (t97_0 : Int32), (wp_L_low h (p1 >>> ((4 : Int32) &&& 31)) (3 : Int32) (fun x2 =>
 (1 ≤ mc ∧
 (6 ≤ ms ∧
 (hT h p0 = 7 ∧
 wp_X5_carAt h p0 ((5 : Int32) + x2) (fun x3 =>
 (∀ J130 : Int32 → Prop, (∀ (t130_0 : Int32), (wp_L_low h p1 (22 : Int32) (fun x6 =>
 (∀ J220 : Prop, ((∀ J248 : Int32 → Prop, (∀ (t248_0 : Int32), (∀ J275 : Int32 → Prop, (∀ (t275_0 : Int32), (∀ J312 : Int32 → Prop, (∀ (t312_0 : Int32), (∀ J327 : Int32 → Prop, (∀ (t327_0 : Int32), (3 ≤ mc ∧
 (18 ≤ ms ∧
 wp_L_kind h p0 t42_0 t248_0 t275_0 t312_0 t327_0 (fun x7 h7 =>
 post x7 h7))) → J327 t327_0) →
 ((((p1 >>> ((17 : Int32) &&& 31)) &&& (1 : Int32)) = (1 : Int32) →
 J327 (1 : Int32)) ∧ (¬ (((p1 >>> ((17 : Int32) &&& 31)) &&& (1 : Int32)) = (1 : Int32)) →
 J327 (0 : Int32)))) → J312 t312_0) →
 ((t17_0 = 0 →
 wp_L_low h (p1 >>> ((14 : Int32) &&& 31)) (3 : Int32) (fun x11 =>
 ((x11 = 0 →
 J312 (8 : Int32)) ∧ (¬ (x11 = 0) →
 J312 (0 : Int32))))) ∧ (¬ (t17_0 = 0) →
 wp_L_low h (p1 >>> ((14 : Int32) &&& 31)) (300 : Int32) (fun x13 =>
 J312 (x13 - (9 : Int32)))))) → J275 t275_0) →
 ((t17_0 = 0 →
 wp_L_low h (p1 >>> ((11 : Int32) &&& 31)) (3 : Int32) (fun x15 =>
 J275 ((1 : Int32) <<< (x15 &&& 31)))) ∧ (¬ (t17_0 = 0) →
 wp_L_low h (p1 >>> ((11 : Int32) &&& 31)) (300 : Int32) (fun x16 =>
 J275 x16)))) → J248 t248_0) →
 ((t17_0 = 0 →
 wp_L_low h (p1 >>> ((8 : Int32) &&& 31)) (5 : Int32) (fun x18 =>
 J248 x18)) ∧ (¬ (t17_0 = 0) →
 wp_L_low h (p1 >>> ((8 : Int32) &&& 31)) (8 : Int32) (fun x19 =>
 J248 (x19 - (1 : Int32)))))) → J220) →
 (∀ J331 : Prop, ((∀ J362 : Int32 → Prop, (∀ (t362_0 : Int32), (∀ J390 : Int32 → Prop, (∀ (t390_0 : Int32), (4 ≤ mc ∧
 (66 ≤ ms ∧
 wp_L_lot dE h p0 t42_0 t362_0 t390_0 (fun x20 h20 =>
 post x20 h20))) → J390 t390_0) →
 ((t17_0 = 0 →
 wp_L_low h (p1 >>> ((12 : Int32) &&& 31)) (4 : Int32) (fun x23 =>
 J390 ((1 : Int32) + x23))) ∧ (¬ (t17_0 = 0) →
 wp_L_low h (p1 >>> ((12 : Int32) &&& 31)) (54 : Int32) (fun x24 =>
 J390 (x24 - (1 : Int32)))))) → J362 t362_0) →
 ((t17_0 = 0 →
 wp_L_low h (p1 >>> ((8 : Int32) &&& 31)) (9 : Int32) (fun x26 =>
 J362 ((1 : Int32) + x26))) ∧ (¬ (t17_0 = 0) →
 wp_L_low h (p1 >>> ((8 : Int32) &&& 31)) (103 : Int32) (fun x27 =>
 J362 (x27 - (1 : Int32)))))) → J331) →
 (∀ J401 : Prop, ((∀ J428 : Int32 → Prop, (∀ (t428_0 : Int32), (4 ≤ mc ∧
 (74 ≤ ms ∧
 wp_L_order dE h p0 t428_0 (fun x28 h28 =>
 post x28 h28))) → J428 t428_0) →
 ((t17_0 = 0 →
 wp_L_low h (p1 >>> ((4 : Int32) &&& 31)) (16 : Int32) (fun x31 =>
 J428 x31)) ∧ (¬ (t17_0 = 0) →
 wp_L_low h (p1 >>> ((4 : Int32) &&& 31)) (259 : Int32) (fun x32 =>
 J428 (x32 - (1 : Int32)))))) → J401) →
 (∀ J439 : Prop, ((5 ≤ mc ∧
 (74 ≤ ms ∧
 wp_L_build dE h p0 t130_0 (fun x33 h33 =>
 post x33 h33))) → J439) →
 (∀ J446 : Prop, ((3 ≤ mc ∧
 (18 ≤ ms ∧
 wp_L_sign h p0 t97_0 t130_0 (fun x35 h35 =>
 post x35 h35))) → J446) →
 (∀ J455 : Prop, ((4 ≤ mc ∧
 (24 ≤ ms ∧
 wp_L_flash h p0 t130_0 t97_0 (fun x37 h37 =>
 post x37 h37))) → J455) →
 ((x6 = (0 : Int32) →
 J220) ∧ ((x6 = (1 : Int32) →
 J220) ∧ ((x6 = (2 : Int32) →
 J331) ∧ ((x6 = (3 : Int32) →
 J331) ∧ ((x6 = (4 : Int32) →
 J331) ∧ ((x6 = (5 : Int32) →
 (3 ≤ mc ∧
 (18 ≤ ms ∧
 wp_L_recall h p0 t97_0 (fun x40 h40 =>
 post x40 h40)))) ∧ ((x6 = (6 : Int32) →
 J401) ∧ ((x6 = (7 : Int32) →
 J401) ∧ ((x6 = (8 : Int32) →
 J401) ∧ ((x6 = (9 : Int32) →
 (3 ≤ mc ∧
 (18 ≤ ms ∧
 wp_L_fault h p0 t68_0 (fun x42 h42 =>
 post x42 h42)))) ∧ ((x6 = (10 : Int32) →
 J439) ∧ ((x6 = (11 : Int32) →
 J439) ∧ ((x6 = (12 : Int32) →
 J439) ∧ ((x6 = (13 : Int32) →
 J446) ∧ ((x6 = (14 : Int32) →
 J446) ∧ ((x6 = (15 : Int32) →
 J455) ∧ ((x6 = (16 : Int32) →
 J455) ∧ (x6.toInt < 0 ∨ 16 < x6.toInt →
 (∀ J491 : Int32 → Prop, (∀ (t491_0 : Int32), (∃ k44 n44 : Nat,
 (1 + k44 ≤ mc ∧
 (6 + n44 ≤ ms ∧
 wp_L_takt dE k44 n44 h p0 t491_0 (fun x44 h44 =>
 post x44 h44)))) → J491 t491_0) →
 ((t17_0 = 0 →
 wp_L_low h (p1 >>> ((4 : Int32) &&& 31)) (2 : Int32) (fun x47 =>
 J491 ((1 : Int32) + x47))) ∧ (¬ (t17_0 = 0) →
 wp_L_low h (p1 >>> ((4 : Int32) &&& 31)) (23 : Int32) (fun x48 =>
 J491 (x48 - (1 : Int32)))))))))))))))))))))))))))))))) → J130 t130_0) →
 (∀ J128 : Prop, ((J130 t68_0) → J128) →
 ((t17_0 = 0 →
 ((x3 < 0 →
 J128) ∧ (¬ (x3 < 0) →
 J130 x3))) ∧ (¬ (t17_0 = 0) →
 J128))))) (fun X => px X h)))))) → J97 t97_0) →
 ((t17_0 = 0 →
 wp_L_low h (p1 >>> ((9 : Int32) &&& 31)) (6 : Int32) (fun x52 =>
 J97 x52)) ∧ (¬ (t17_0 = 0) →
 wp_L_low h (p1 >>> ((9 : Int32) &&& 31)) (43 : Int32) (fun x53 =>
 J97 (x53 - (1 : Int32)))))) → J68 t68_0) →
 ((t17_0 = 0 →
 wp_L_low h (p1 >>> ((4 : Int32) &&& 31)) (6 : Int32) (fun x55 =>
 J68 x55)) ∧ (¬ (t17_0 = 0) →
 wp_L_low h (p1 >>> ((4 : Int32) &&& 31)) (33 : Int32) (fun x56 =>
 J68 (x56 - (1 : Int32)))))) → J42 t42_0) →
 ((t17_0 = 0 →
 wp_L_low h (p1 >>> ((4 : Int32) &&& 31)) (4 : Int32) (fun x58 =>
 J42 x58)) ∧ (¬ (t17_0 = 0) →
 wp_L_low h (p1 >>> ((4 : Int32) &&& 31)) (12 : Int32) (fun x59 =>
 J42 (x59 - (1 : Int32)))))) → J17 t17_0) →
 ((x1 = 0 →
 J17 (1 : Int32)) ∧ (¬ (x1 = 0) →
 J17 (0 : Int32)))))
set_option maxHeartbeats 4000000 in
set_option maxRecDepth 100000 in
theorem m_L_act {E : Ev} {l : Launch} (hl : l.stackTraces = false) {mc ms : Nat} {h : Hp} {p0 : Nat} {p1 : Int32} {post : Int32 → Hp → Prop} {px : String → Hp → Prop} (hw : wp_L_act (eE E) mc ms h p0 p1 post px) : MT E l yL_act cL_act 8 (some .int) 12 284 mc ms h [.ref p0, .int p1] (poI post) (px) := by
  refine MT.of (by decide) hl (Nat.le_of_ble_eq_true rfl) (fun p e s m args below meth c C => ?_)
  unfold wp_L_act at hw
  have C : CX E p l s m args meth c cL_act 8 "TaktLineLaw" "act" (some .int) [] := C
  show WS E p l e (rmOf 12 mc ms 284) s m args below meth c 8 (vx_MQ below (qcP E (poI post)) (xcP E (px)) args s mc ms (bsA E)) h 0 0 0 [(0, .ref p0), (1, .int p1)] []
  refine r_iload_n C dL_act_0 rfl rfl ?_
  refine r_bipush (v := (24 : Int32)) C dL_act_1 (by decide) ?_
  refine r_ishr C dL_act_3 ?_
  refine r_bipush (v := (9 : Int32)) C dL_act_4 (by decide) ?_
  refine r_callS (As := [.int (p1 >>> ((24 : Int32) &&& 31)), .int (9 : Int32)]) (st := []) C (m_L_low hl hw) v_L_low w_529 rfl ⟨leb rfl, leb rfl⟩ ⟨(Nat.zero_le _), (Nat.zero_le _)⟩ rfl (leb rfl) dL_act_6 (fun _ _ z => z.elim) (kpI (K := fun hK sK => WS E p l e (rmOf 12 mc ms 284) s m args below meth c 8 (vx_MQ below (qcP E (poI post)) (xcP E (px)) args s mc ms (bsA E)) hK (0) (0) (6 + 3) [(0, .ref p0), (1, .int p1)] sK) (fun x1 hv => ?_))
  replace hw := hv
  clear hv
  replace hw := hw (fun (t17_0 : Int32) => WS E p l e (rmOf 12 mc ms 284) s m args below meth c 8 (vx_MQ below (qcP E (poI post)) (xcP E (px)) args s mc ms (bsA E)) h 0 0 17 [(0, .ref p0), (1, .int p1)] [.int t17_0]) (by
    intro t17_0 hv
    replace hw := hv
    clear hv
    refine r_istore_n C dL_act_17 rfl (by decide) [(0, .ref p0), (1, .int p1), (2, .int t17_0)] ⟨rfl, rfl, rfl, trivial⟩ ?_
    refine r_iload_n C dL_act_18 rfl rfl ?_
    replace hw := hw (fun (t42_0 : Int32) => WS E p l e (rmOf 12 mc ms 284) s m args below meth c 8 (vx_MQ below (qcP E (poI post)) (xcP E (px)) args s mc ms (bsA E)) h 0 0 42 [(0, .ref p0), (1, .int p1), (2, .int t17_0)] [.int t42_0]) (by
      intro t42_0 hv
      replace hw := hv
      clear hv
      refine r_istore_n C dL_act_42 rfl (by decide) [(0, .ref p0), (1, .int p1), (2, .int t17_0), (3, .int t42_0)] ⟨rfl, rfl, rfl, rfl, trivial⟩ ?_
      refine r_iload_n C dL_act_43 rfl rfl ?_
      replace hw := hw (fun (t68_0 : Int32) => WS E p l e (rmOf 12 mc ms 284) s m args below meth c 8 (vx_MQ below (qcP E (poI post)) (xcP E (px)) args s mc ms (bsA E)) h 0 0 68 [(0, .ref p0), (1, .int p1), (2, .int t17_0), (3, .int t42_0)] [.int t68_0]) (by
        intro t68_0 hv
        replace hw := hv
        clear hv
        refine r_istore C dL_act_68 (by decide) [(0, .ref p0), (1, .int p1), (2, .int t17_0), (3, .int t42_0), (4, .int t68_0)] ⟨rfl, rfl, rfl, rfl, rfl, trivial⟩ ?_
        refine r_iload_n C dL_act_70 rfl rfl ?_
        replace hw := hw (fun (t97_0 : Int32) => WS E p l e (rmOf 12 mc ms 284) s m args below meth c 8 (vx_MQ below (qcP E (poI post)) (xcP E (px)) args s mc ms (bsA E)) h 0 0 97 [(0, .ref p0), (1, .int p1), (2, .int t17_0), (3, .int t42_0), (4, .int t68_0)] [.int t97_0]) (by
          intro t97_0 hv
          replace hw := hv
          clear hv
          refine r_istore C dL_act_97 (by decide) [(0, .ref p0), (1, .int p1), (2, .int t17_0), (3, .int t42_0), (4, .int t68_0), (5, .int t97_0)] ⟨rfl, rfl, rfl, rfl, rfl, rfl, trivial⟩ ?_
          refine r_aload_n C dL_act_99 rfl rfl ?_
          refine r_iconst (v := (5 : Int32)) C dL_act_100 (by decide) ?_
          refine r_iload_n C dL_act_101 rfl rfl ?_
          refine r_iconst (v := (4 : Int32)) C dL_act_102 (by decide) ?_
          refine r_ishr C dL_act_103 ?_
          refine r_iconst (v := (3 : Int32)) C dL_act_104 (by decide) ?_
          refine r_callS (As := [.int (p1 >>> ((4 : Int32) &&& 31)), .int (3 : Int32)]) (st := [.int (5 : Int32), .ref p0]) C (m_L_low hl hw) v_L_low w_529 rfl ⟨leb rfl, leb rfl⟩ ⟨(Nat.zero_le _), (Nat.zero_le _)⟩ rfl (leb rfl) dL_act_105 (fun _ _ z => z.elim) (kpI (K := fun hK sK => WS E p l e (rmOf 12 mc ms 284) s m args below meth c 8 (vx_MQ below (qcP E (poI post)) (xcP E (px)) args s mc ms (bsA E)) hK (0) (0) (105 + 3) [(0, .ref p0), (1, .int p1), (2, .int t17_0), (3, .int t42_0), (4, .int t68_0), (5, .int t97_0)] sK) (fun x2 hv => ?_))
          replace hw := hv
          clear hv
          refine r_iadd C dL_act_108 ?_
          obtain ⟨b4, d4, hw⟩ := hw
          obtain ⟨g5, hw⟩ := hw
          refine r_callV (As := [.int ((5 : Int32) + x2)]) (st := []) C (m_X5_carAt hl hw) v_X5_carAt w_533 K7 g5 (by decide) ob7 rfl ⟨leb rfl, leb rfl⟩ ⟨b4, d4⟩ rfl (leb rfl) dL_act_109 (fun X h9 hx => by obtain ⟨hx, rfl⟩ := hx; exact r_out C hx b4 d4) (kpI (K := fun hK sK => WS E p l e (rmOf 12 mc ms 284) s m args below meth c 8 (vx_MQ below (qcP E (poI post)) (xcP E (px)) args s mc ms (bsA E)) hK (1) (6) (109 + 3) [(0, .ref p0), (1, .int p1), (2, .int t17_0), (3, .int t42_0), (4, .int t68_0), (5, .int t97_0)] sK) (fun x3 hv => ?_))
          replace hw := hv
          clear hv
          refine r_istore C dL_act_112 (by decide) [(0, .ref p0), (1, .int p1), (2, .int t17_0), (3, .int t42_0), (4, .int t68_0), (5, .int t97_0), (6, .int x3)] ⟨rfl, rfl, rfl, rfl, rfl, rfl, rfl, trivial⟩ ?_
          refine r_iload_n C dL_act_114 rfl rfl ?_
          replace hw := hw (fun (t130_0 : Int32) => WS E p l e (rmOf 12 mc ms 284) s m args below meth c 8 (vx_MQ below (qcP E (poI post)) (xcP E (px)) args s mc ms (bsA E)) h 1 6 130 [(0, .ref p0), (1, .int p1), (2, .int t17_0), (3, .int t42_0), (4, .int t68_0), (5, .int t97_0)] [.int t130_0]) (by
            intro t130_0 hv
            replace hw := hv
            clear hv
            refine r_istore C dL_act_130 (by decide) [(0, .ref p0), (1, .int p1), (2, .int t17_0), (3, .int t42_0), (4, .int t68_0), (5, .int t97_0), (7, .int t130_0)] ⟨rfl, rfl, rfl, rfl, rfl, rfl, rfl, trivial⟩ ?_
            refine r_iload_n C dL_act_132 rfl rfl ?_
            refine r_bipush (v := (22 : Int32)) C dL_act_133 (by decide) ?_
            refine r_callS (As := [.int p1, .int (22 : Int32)]) (st := []) C (m_L_low hl hw) v_L_low w_529 rfl ⟨leb rfl, leb rfl⟩ ⟨b4, d4⟩ rfl (leb rfl) dL_act_135 (fun _ _ z => z.elim) (kpI (K := fun hK sK => WS E p l e (rmOf 12 mc ms 284) s m args below meth c 8 (vx_MQ below (qcP E (poI post)) (xcP E (px)) args s mc ms (bsA E)) hK (1) (6) (135 + 3) [(0, .ref p0), (1, .int p1), (2, .int t17_0), (3, .int t42_0), (4, .int t68_0), (5, .int t97_0), (7, .int t130_0)] sK) (fun x6 hv => ?_))
            replace hw := hv
            clear hv
            replace hw := hw (WS E p l e (rmOf 12 mc ms 284) s m args below meth c 8 (vx_MQ below (qcP E (poI post)) (xcP E (px)) args s mc ms (bsA E)) h 1 6 220 [(0, .ref p0), (1, .int p1), (2, .int t17_0), (3, .int t42_0)] []) (by
              intro hv
              replace hw := hv
              clear hv
              refine r_aload_n C dL_act_220 rfl rfl ?_
              refine r_iload_n C dL_act_221 rfl rfl ?_
              refine r_iload_n C dL_act_222 rfl rfl ?_
              replace hw := hw (fun (t248_0 : Int32) => WS E p l e (rmOf 12 mc ms 284) s m args below meth c 8 (vx_MQ below (qcP E (poI post)) (xcP E (px)) args s mc ms (bsA E)) h 1 6 248 [(1, .int p1), (2, .int t17_0)] [.int t248_0, .int t42_0, .ref p0]) (by
                intro t248_0 hv
                replace hw := hv
                clear hv
                refine r_iload_n C dL_act_248 rfl rfl ?_
                replace hw := hw (fun (t275_0 : Int32) => WS E p l e (rmOf 12 mc ms 284) s m args below meth c 8 (vx_MQ below (qcP E (poI post)) (xcP E (px)) args s mc ms (bsA E)) h 1 6 275 [(1, .int p1), (2, .int t17_0)] [.int t275_0, .int t248_0, .int t42_0, .ref p0]) (by
                  intro t275_0 hv
                  replace hw := hv
                  clear hv
                  refine r_iload_n C dL_act_275 rfl rfl ?_
                  replace hw := hw (fun (t312_0 : Int32) => WS E p l e (rmOf 12 mc ms 284) s m args below meth c 8 (vx_MQ below (qcP E (poI post)) (xcP E (px)) args s mc ms (bsA E)) h 1 6 312 [(1, .int p1)] [.int t312_0, .int t275_0, .int t248_0, .int t42_0, .ref p0]) (by
                    intro t312_0 hv
                    replace hw := hv
                    clear hv
                    refine r_iload_n C dL_act_312 rfl rfl ?_
                    refine r_bipush (v := (17 : Int32)) C dL_act_313 (by decide) ?_
                    refine r_ishr C dL_act_315 ?_
                    refine r_iconst (v := (1 : Int32)) C dL_act_316 (by decide) ?_
                    refine r_iand C dL_act_317 ?_
                    refine r_iconst (v := (1 : Int32)) C dL_act_318 (by decide) ?_
                    replace hw := hw (fun (t327_0 : Int32) => WS E p l e (rmOf 12 mc ms 284) s m args below meth c 8 (vx_MQ below (qcP E (poI post)) (xcP E (px)) args s mc ms (bsA E)) h 1 6 327 [] [.int t327_0, .int t312_0, .int t275_0, .int t248_0, .int t42_0, .ref p0]) (by
                      intro t327_0 hv
                      replace hw := hv
                      clear hv
                      obtain ⟨b8, d8, hw⟩ := hw
                      refine r_callSW (As := [.ref p0, .int t42_0, .int t248_0, .int t275_0, .int t312_0, .int t327_0]) (st := []) C (m_L_kind hl hw) v_L_kind w_538 rfl ⟨leb rfl, leb rfl⟩ ⟨b8, d8⟩ rfl (leb rfl) dL_act_327 (fun _ _ z => z.elim) (kkI (K := fun hK sK => WS E p l e (rmOf 12 mc ms 284) s m args below meth c 8 (vx_MQ below (qcP E (poI post)) (xcP E (px)) args s mc ms (bsA E)) hK (3) (18) (327 + 3) [] sK) (fun x7 h7 hv => ?_))
                      replace hw := hv
                      clear hv
                      exact r_iret C dL_act_330 b8 d8 ⟨_, rfl, hw⟩
                      )
                    refine r_icmp_ne C 326 dL_act_319 (by decide) (fun z9 => ?_) (fun z9 => ?_)
                    · replace hw := hw.2 z9
                      refine r_iconst (v := (0 : Int32)) C dL_act_326 (by decide) ?_
                      exact (r_subk hw trivial)
                    · replace hw := hw.1 z9
                      refine r_iconst (v := (1 : Int32)) C dL_act_322 (by decide) ?_
                      refine r_goto C 327 dL_act_323 (by decide) ?_
                      exact (r_subk hw trivial)
                    )
                  refine r_if_eq C 295 dL_act_276 (by decide) (fun z10 => ?_) (fun z10 => ?_)
                  · replace hw := hw.1 z10
                    refine r_iload_n C dL_act_295 rfl rfl ?_
                    refine r_bipush (v := (14 : Int32)) C dL_act_296 (by decide) ?_
                    refine r_ishr C dL_act_298 ?_
                    refine r_iconst (v := (3 : Int32)) C dL_act_299 (by decide) ?_
                    refine r_callS (As := [.int (p1 >>> ((14 : Int32) &&& 31)), .int (3 : Int32)]) (st := [.int t275_0, .int t248_0, .int t42_0, .ref p0]) C (m_L_low hl hw) v_L_low w_529 rfl ⟨leb rfl, leb rfl⟩ ⟨b4, d4⟩ rfl (leb rfl) dL_act_300 (fun _ _ z => z.elim) (kpI (K := fun hK sK => WS E p l e (rmOf 12 mc ms 284) s m args below meth c 8 (vx_MQ below (qcP E (poI post)) (xcP E (px)) args s mc ms (bsA E)) hK (1) (6) (300 + 3) [(1, .int p1), (2, .int t17_0)] sK) (fun x11 hv => ?_))
                    replace hw := hv
                    clear hv
                    refine r_if_ne C 311 dL_act_303 (by decide) (fun z12 => ?_) (fun z12 => ?_)
                    · replace hw := hw.2 z12
                      refine r_iconst (v := (0 : Int32)) C dL_act_311 (by decide) ?_
                      exact (r_subk hw ⟨rfl, trivial⟩)
                    · replace hw := hw.1 z12
                      refine r_bipush (v := (8 : Int32)) C dL_act_306 (by decide) ?_
                      refine r_goto C 312 dL_act_308 (by decide) ?_
                      exact (r_subk hw ⟨rfl, trivial⟩)
                  · replace hw := hw.2 z10
                    refine r_iload_n C dL_act_279 rfl rfl ?_
                    refine r_bipush (v := (14 : Int32)) C dL_act_280 (by decide) ?_
                    refine r_ishr C dL_act_282 ?_
                    refine r_sipush (v := (300 : Int32)) C dL_act_283 (by decide) ?_
                    refine r_callS (As := [.int (p1 >>> ((14 : Int32) &&& 31)), .int (300 : Int32)]) (st := [.int t275_0, .int t248_0, .int t42_0, .ref p0]) C (m_L_low hl hw) v_L_low w_529 rfl ⟨leb rfl, leb rfl⟩ ⟨b4, d4⟩ rfl (leb rfl) dL_act_286 (fun _ _ z => z.elim) (kpI (K := fun hK sK => WS E p l e (rmOf 12 mc ms 284) s m args below meth c 8 (vx_MQ below (qcP E (poI post)) (xcP E (px)) args s mc ms (bsA E)) hK (1) (6) (286 + 3) [(1, .int p1), (2, .int t17_0)] sK) (fun x13 hv => ?_))
                    replace hw := hv
                    clear hv
                    refine r_bipush (v := (9 : Int32)) C dL_act_289 (by decide) ?_
                    refine r_isub C dL_act_291 ?_
                    refine r_goto C 312 dL_act_292 (by decide) ?_
                    exact (r_subk hw ⟨rfl, trivial⟩)
                  )
                refine r_if_eq C 265 dL_act_249 (by decide) (fun z14 => ?_) (fun z14 => ?_)
                · replace hw := hw.1 z14
                  refine r_iconst (v := (1 : Int32)) C dL_act_265 (by decide) ?_
                  refine r_iload_n C dL_act_266 rfl rfl ?_
                  refine r_bipush (v := (11 : Int32)) C dL_act_267 (by decide) ?_
                  refine r_ishr C dL_act_269 ?_
                  refine r_iconst (v := (3 : Int32)) C dL_act_270 (by decide) ?_
                  refine r_callS (As := [.int (p1 >>> ((11 : Int32) &&& 31)), .int (3 : Int32)]) (st := [.int (1 : Int32), .int t248_0, .int t42_0, .ref p0]) C (m_L_low hl hw) v_L_low w_529 rfl ⟨leb rfl, leb rfl⟩ ⟨b4, d4⟩ rfl (leb rfl) dL_act_271 (fun _ _ z => z.elim) (kpI (K := fun hK sK => WS E p l e (rmOf 12 mc ms 284) s m args below meth c 8 (vx_MQ below (qcP E (poI post)) (xcP E (px)) args s mc ms (bsA E)) hK (1) (6) (271 + 3) [(1, .int p1), (2, .int t17_0)] sK) (fun x15 hv => ?_))
                  replace hw := hv
                  clear hv
                  refine r_ishl C dL_act_274 ?_
                  exact (r_subk hw ⟨rfl, rfl, trivial⟩)
                · replace hw := hw.2 z14
                  refine r_iload_n C dL_act_252 rfl rfl ?_
                  refine r_bipush (v := (11 : Int32)) C dL_act_253 (by decide) ?_
                  refine r_ishr C dL_act_255 ?_
                  refine r_sipush (v := (300 : Int32)) C dL_act_256 (by decide) ?_
                  refine r_callS (As := [.int (p1 >>> ((11 : Int32) &&& 31)), .int (300 : Int32)]) (st := [.int t248_0, .int t42_0, .ref p0]) C (m_L_low hl hw) v_L_low w_529 rfl ⟨leb rfl, leb rfl⟩ ⟨b4, d4⟩ rfl (leb rfl) dL_act_259 (fun _ _ z => z.elim) (kpI (K := fun hK sK => WS E p l e (rmOf 12 mc ms 284) s m args below meth c 8 (vx_MQ below (qcP E (poI post)) (xcP E (px)) args s mc ms (bsA E)) hK (1) (6) (259 + 3) [(1, .int p1), (2, .int t17_0)] sK) (fun x16 hv => ?_))
                  replace hw := hv
                  clear hv
                  refine r_goto C 275 dL_act_262 (by decide) ?_
                  exact (r_subk hw ⟨rfl, rfl, trivial⟩)
                )
              refine r_if_eq C 240 dL_act_223 (by decide) (fun z17 => ?_) (fun z17 => ?_)
              · replace hw := hw.1 z17
                refine r_iload_n C dL_act_240 rfl rfl ?_
                refine r_bipush (v := (8 : Int32)) C dL_act_241 (by decide) ?_
                refine r_ishr C dL_act_243 ?_
                refine r_iconst (v := (5 : Int32)) C dL_act_244 (by decide) ?_
                refine r_callS (As := [.int (p1 >>> ((8 : Int32) &&& 31)), .int (5 : Int32)]) (st := [.int t42_0, .ref p0]) C (m_L_low hl hw) v_L_low w_529 rfl ⟨leb rfl, leb rfl⟩ ⟨b4, d4⟩ rfl (leb rfl) dL_act_245 (fun _ _ z => z.elim) (kpI (K := fun hK sK => WS E p l e (rmOf 12 mc ms 284) s m args below meth c 8 (vx_MQ below (qcP E (poI post)) (xcP E (px)) args s mc ms (bsA E)) hK (1) (6) (245 + 3) [(0, .ref p0), (1, .int p1), (2, .int t17_0), (3, .int t42_0)] sK) (fun x18 hv => ?_))
                replace hw := hv
                clear hv
                exact (r_subk hw ⟨rfl, rfl, trivial⟩)
              · replace hw := hw.2 z17
                refine r_iload_n C dL_act_226 rfl rfl ?_
                refine r_bipush (v := (8 : Int32)) C dL_act_227 (by decide) ?_
                refine r_ishr C dL_act_229 ?_
                refine r_bipush (v := (8 : Int32)) C dL_act_230 (by decide) ?_
                refine r_callS (As := [.int (p1 >>> ((8 : Int32) &&& 31)), .int (8 : Int32)]) (st := [.int t42_0, .ref p0]) C (m_L_low hl hw) v_L_low w_529 rfl ⟨leb rfl, leb rfl⟩ ⟨b4, d4⟩ rfl (leb rfl) dL_act_232 (fun _ _ z => z.elim) (kpI (K := fun hK sK => WS E p l e (rmOf 12 mc ms 284) s m args below meth c 8 (vx_MQ below (qcP E (poI post)) (xcP E (px)) args s mc ms (bsA E)) hK (1) (6) (232 + 3) [(0, .ref p0), (1, .int p1), (2, .int t17_0), (3, .int t42_0)] sK) (fun x19 hv => ?_))
                replace hw := hv
                clear hv
                refine r_iconst (v := (1 : Int32)) C dL_act_235 (by decide) ?_
                refine r_isub C dL_act_236 ?_
                refine r_goto C 248 dL_act_237 (by decide) ?_
                exact (r_subk hw ⟨rfl, rfl, trivial⟩)
              )
            replace hw := hw (WS E p l e (rmOf 12 mc ms 284) s m args below meth c 8 (vx_MQ below (qcP E (poI post)) (xcP E (px)) args s mc ms (bsA E)) h 1 6 331 [(0, .ref p0), (1, .int p1), (2, .int t17_0), (3, .int t42_0)] []) (by
              intro hv
              replace hw := hv
              clear hv
              refine r_aload_n C dL_act_331 rfl rfl ?_
              refine r_iload_n C dL_act_332 rfl rfl ?_
              refine r_iload_n C dL_act_333 rfl rfl ?_
              replace hw := hw (fun (t362_0 : Int32) => WS E p l e (rmOf 12 mc ms 284) s m args below meth c 8 (vx_MQ below (qcP E (poI post)) (xcP E (px)) args s mc ms (bsA E)) h 1 6 362 [(1, .int p1), (2, .int t17_0)] [.int t362_0, .int t42_0, .ref p0]) (by
                intro t362_0 hv
                replace hw := hv
                clear hv
                refine r_iload_n C dL_act_362 rfl rfl ?_
                replace hw := hw (fun (t390_0 : Int32) => WS E p l e (rmOf 12 mc ms 284) s m args below meth c 8 (vx_MQ below (qcP E (poI post)) (xcP E (px)) args s mc ms (bsA E)) h 1 6 390 [] [.int t390_0, .int t362_0, .int t42_0, .ref p0]) (by
                  intro t390_0 hv
                  replace hw := hv
                  clear hv
                  obtain ⟨b21, d21, hw⟩ := hw
                  refine r_callSW (As := [.ref p0, .int t42_0, .int t362_0, .int t390_0]) (st := []) C (m_L_lot hl hw) v_L_lot w_565 rfl ⟨leb rfl, leb rfl⟩ ⟨b21, d21⟩ rfl (leb rfl) dL_act_390 (fun _ _ z => z.elim) (kkI (K := fun hK sK => WS E p l e (rmOf 12 mc ms 284) s m args below meth c 8 (vx_MQ below (qcP E (poI post)) (xcP E (px)) args s mc ms (bsA E)) hK (4) (66) (390 + 3) [] sK) (fun x20 h20 hv => ?_))
                  replace hw := hv
                  clear hv
                  exact r_iret C dL_act_393 b21 d21 ⟨_, rfl, hw⟩
                  )
                refine r_if_eq C 380 dL_act_363 (by decide) (fun z22 => ?_) (fun z22 => ?_)
                · replace hw := hw.1 z22
                  refine r_iconst (v := (1 : Int32)) C dL_act_380 (by decide) ?_
                  refine r_iload_n C dL_act_381 rfl rfl ?_
                  refine r_bipush (v := (12 : Int32)) C dL_act_382 (by decide) ?_
                  refine r_ishr C dL_act_384 ?_
                  refine r_iconst (v := (4 : Int32)) C dL_act_385 (by decide) ?_
                  refine r_callS (As := [.int (p1 >>> ((12 : Int32) &&& 31)), .int (4 : Int32)]) (st := [.int (1 : Int32), .int t362_0, .int t42_0, .ref p0]) C (m_L_low hl hw) v_L_low w_529 rfl ⟨leb rfl, leb rfl⟩ ⟨b4, d4⟩ rfl (leb rfl) dL_act_386 (fun _ _ z => z.elim) (kpI (K := fun hK sK => WS E p l e (rmOf 12 mc ms 284) s m args below meth c 8 (vx_MQ below (qcP E (poI post)) (xcP E (px)) args s mc ms (bsA E)) hK (1) (6) (386 + 3) [(1, .int p1), (2, .int t17_0)] sK) (fun x23 hv => ?_))
                  replace hw := hv
                  clear hv
                  refine r_iadd C dL_act_389 ?_
                  exact (r_subk hw trivial)
                · replace hw := hw.2 z22
                  refine r_iload_n C dL_act_366 rfl rfl ?_
                  refine r_bipush (v := (12 : Int32)) C dL_act_367 (by decide) ?_
                  refine r_ishr C dL_act_369 ?_
                  refine r_bipush (v := (54 : Int32)) C dL_act_370 (by decide) ?_
                  refine r_callS (As := [.int (p1 >>> ((12 : Int32) &&& 31)), .int (54 : Int32)]) (st := [.int t362_0, .int t42_0, .ref p0]) C (m_L_low hl hw) v_L_low w_529 rfl ⟨leb rfl, leb rfl⟩ ⟨b4, d4⟩ rfl (leb rfl) dL_act_372 (fun _ _ z => z.elim) (kpI (K := fun hK sK => WS E p l e (rmOf 12 mc ms 284) s m args below meth c 8 (vx_MQ below (qcP E (poI post)) (xcP E (px)) args s mc ms (bsA E)) hK (1) (6) (372 + 3) [(1, .int p1), (2, .int t17_0)] sK) (fun x24 hv => ?_))
                  replace hw := hv
                  clear hv
                  refine r_iconst (v := (1 : Int32)) C dL_act_375 (by decide) ?_
                  refine r_isub C dL_act_376 ?_
                  refine r_goto C 390 dL_act_377 (by decide) ?_
                  exact (r_subk hw trivial)
                )
              refine r_if_eq C 351 dL_act_334 (by decide) (fun z25 => ?_) (fun z25 => ?_)
              · replace hw := hw.1 z25
                refine r_iconst (v := (1 : Int32)) C dL_act_351 (by decide) ?_
                refine r_iload_n C dL_act_352 rfl rfl ?_
                refine r_bipush (v := (8 : Int32)) C dL_act_353 (by decide) ?_
                refine r_ishr C dL_act_355 ?_
                refine r_bipush (v := (9 : Int32)) C dL_act_356 (by decide) ?_
                refine r_callS (As := [.int (p1 >>> ((8 : Int32) &&& 31)), .int (9 : Int32)]) (st := [.int (1 : Int32), .int t42_0, .ref p0]) C (m_L_low hl hw) v_L_low w_529 rfl ⟨leb rfl, leb rfl⟩ ⟨b4, d4⟩ rfl (leb rfl) dL_act_358 (fun _ _ z => z.elim) (kpI (K := fun hK sK => WS E p l e (rmOf 12 mc ms 284) s m args below meth c 8 (vx_MQ below (qcP E (poI post)) (xcP E (px)) args s mc ms (bsA E)) hK (1) (6) (358 + 3) [(0, .ref p0), (1, .int p1), (2, .int t17_0), (3, .int t42_0)] sK) (fun x26 hv => ?_))
                replace hw := hv
                clear hv
                refine r_iadd C dL_act_361 ?_
                exact (r_subk hw ⟨rfl, rfl, trivial⟩)
              · replace hw := hw.2 z25
                refine r_iload_n C dL_act_337 rfl rfl ?_
                refine r_bipush (v := (8 : Int32)) C dL_act_338 (by decide) ?_
                refine r_ishr C dL_act_340 ?_
                refine r_bipush (v := (103 : Int32)) C dL_act_341 (by decide) ?_
                refine r_callS (As := [.int (p1 >>> ((8 : Int32) &&& 31)), .int (103 : Int32)]) (st := [.int t42_0, .ref p0]) C (m_L_low hl hw) v_L_low w_529 rfl ⟨leb rfl, leb rfl⟩ ⟨b4, d4⟩ rfl (leb rfl) dL_act_343 (fun _ _ z => z.elim) (kpI (K := fun hK sK => WS E p l e (rmOf 12 mc ms 284) s m args below meth c 8 (vx_MQ below (qcP E (poI post)) (xcP E (px)) args s mc ms (bsA E)) hK (1) (6) (343 + 3) [(0, .ref p0), (1, .int p1), (2, .int t17_0), (3, .int t42_0)] sK) (fun x27 hv => ?_))
                replace hw := hv
                clear hv
                refine r_iconst (v := (1 : Int32)) C dL_act_346 (by decide) ?_
                refine r_isub C dL_act_347 ?_
                refine r_goto C 362 dL_act_348 (by decide) ?_
                exact (r_subk hw ⟨rfl, rfl, trivial⟩)
              )
            replace hw := hw (WS E p l e (rmOf 12 mc ms 284) s m args below meth c 8 (vx_MQ below (qcP E (poI post)) (xcP E (px)) args s mc ms (bsA E)) h 1 6 401 [(0, .ref p0), (1, .int p1), (2, .int t17_0)] []) (by
              intro hv
              replace hw := hv
              clear hv
              refine r_aload_n C dL_act_401 rfl rfl ?_
              refine r_iload_n C dL_act_402 rfl rfl ?_
              replace hw := hw (fun (t428_0 : Int32) => WS E p l e (rmOf 12 mc ms 284) s m args below meth c 8 (vx_MQ below (qcP E (poI post)) (xcP E (px)) args s mc ms (bsA E)) h 1 6 428 [] [.int t428_0, .ref p0]) (by
                intro t428_0 hv
                replace hw := hv
                clear hv
                obtain ⟨b29, d29, hw⟩ := hw
                refine r_callSW (As := [.ref p0, .int t428_0]) (st := []) C (m_L_order hl hw) v_L_order w_618 rfl ⟨leb rfl, leb rfl⟩ ⟨b29, d29⟩ rfl (leb rfl) dL_act_428 (fun _ _ z => z.elim) (kkI (K := fun hK sK => WS E p l e (rmOf 12 mc ms 284) s m args below meth c 8 (vx_MQ below (qcP E (poI post)) (xcP E (px)) args s mc ms (bsA E)) hK (4) (74) (428 + 3) [] sK) (fun x28 h28 hv => ?_))
                replace hw := hv
                clear hv
                exact r_iret C dL_act_431 b29 d29 ⟨_, rfl, hw⟩
                )
              refine r_if_eq C 420 dL_act_403 (by decide) (fun z30 => ?_) (fun z30 => ?_)
              · replace hw := hw.1 z30
                refine r_iload_n C dL_act_420 rfl rfl ?_
                refine r_iconst (v := (4 : Int32)) C dL_act_421 (by decide) ?_
                refine r_ishr C dL_act_422 ?_
                refine r_bipush (v := (16 : Int32)) C dL_act_423 (by decide) ?_
                refine r_callS (As := [.int (p1 >>> ((4 : Int32) &&& 31)), .int (16 : Int32)]) (st := [.ref p0]) C (m_L_low hl hw) v_L_low w_529 rfl ⟨leb rfl, leb rfl⟩ ⟨b4, d4⟩ rfl (leb rfl) dL_act_425 (fun _ _ z => z.elim) (kpI (K := fun hK sK => WS E p l e (rmOf 12 mc ms 284) s m args below meth c 8 (vx_MQ below (qcP E (poI post)) (xcP E (px)) args s mc ms (bsA E)) hK (1) (6) (425 + 3) [(0, .ref p0), (1, .int p1), (2, .int t17_0)] sK) (fun x31 hv => ?_))
                replace hw := hv
                clear hv
                exact (r_subk hw trivial)
              · replace hw := hw.2 z30
                refine r_iload_n C dL_act_406 rfl rfl ?_
                refine r_iconst (v := (4 : Int32)) C dL_act_407 (by decide) ?_
                refine r_ishr C dL_act_408 ?_
                refine r_sipush (v := (259 : Int32)) C dL_act_409 (by decide) ?_
                refine r_callS (As := [.int (p1 >>> ((4 : Int32) &&& 31)), .int (259 : Int32)]) (st := [.ref p0]) C (m_L_low hl hw) v_L_low w_529 rfl ⟨leb rfl, leb rfl⟩ ⟨b4, d4⟩ rfl (leb rfl) dL_act_412 (fun _ _ z => z.elim) (kpI (K := fun hK sK => WS E p l e (rmOf 12 mc ms 284) s m args below meth c 8 (vx_MQ below (qcP E (poI post)) (xcP E (px)) args s mc ms (bsA E)) hK (1) (6) (412 + 3) [(0, .ref p0), (1, .int p1), (2, .int t17_0)] sK) (fun x32 hv => ?_))
                replace hw := hv
                clear hv
                refine r_iconst (v := (1 : Int32)) C dL_act_415 (by decide) ?_
                refine r_isub C dL_act_416 ?_
                refine r_goto C 428 dL_act_417 (by decide) ?_
                exact (r_subk hw trivial)
              )
            replace hw := hw (WS E p l e (rmOf 12 mc ms 284) s m args below meth c 8 (vx_MQ below (qcP E (poI post)) (xcP E (px)) args s mc ms (bsA E)) h 1 6 439 [(0, .ref p0), (7, .int t130_0)] []) (by
              intro hv
              replace hw := hv
              clear hv
              refine r_aload_n C dL_act_439 rfl rfl ?_
              refine r_iload C dL_act_440 rfl ?_
              obtain ⟨b34, d34, hw⟩ := hw
              refine r_callSW (As := [.ref p0, .int t130_0]) (st := []) C (m_L_build hl hw) v_L_build w_679 rfl ⟨leb rfl, leb rfl⟩ ⟨b34, d34⟩ rfl (leb rfl) dL_act_442 (fun _ _ z => z.elim) (kkI (K := fun hK sK => WS E p l e (rmOf 12 mc ms 284) s m args below meth c 8 (vx_MQ below (qcP E (poI post)) (xcP E (px)) args s mc ms (bsA E)) hK (5) (74) (442 + 3) [(0, .ref p0), (7, .int t130_0)] sK) (fun x33 h33 hv => ?_))
              replace hw := hv
              clear hv
              exact r_iret C dL_act_445 b34 d34 ⟨_, rfl, hw⟩
              )
            replace hw := hw (WS E p l e (rmOf 12 mc ms 284) s m args below meth c 8 (vx_MQ below (qcP E (poI post)) (xcP E (px)) args s mc ms (bsA E)) h 1 6 446 [(0, .ref p0), (5, .int t97_0), (7, .int t130_0)] []) (by
              intro hv
              replace hw := hv
              clear hv
              refine r_aload_n C dL_act_446 rfl rfl ?_
              refine r_iload C dL_act_447 rfl ?_
              refine r_iload C dL_act_449 rfl ?_
              obtain ⟨b36, d36, hw⟩ := hw
              refine r_callSW (As := [.ref p0, .int t97_0, .int t130_0]) (st := []) C (m_L_sign hl hw) v_L_sign w_682 rfl ⟨leb rfl, leb rfl⟩ ⟨b36, d36⟩ rfl (leb rfl) dL_act_451 (fun _ _ z => z.elim) (kkI (K := fun hK sK => WS E p l e (rmOf 12 mc ms 284) s m args below meth c 8 (vx_MQ below (qcP E (poI post)) (xcP E (px)) args s mc ms (bsA E)) hK (3) (18) (451 + 3) [(0, .ref p0), (5, .int t97_0), (7, .int t130_0)] sK) (fun x35 h35 hv => ?_))
              replace hw := hv
              clear hv
              exact r_iret C dL_act_454 b36 d36 ⟨_, rfl, hw⟩
              )
            replace hw := hw (WS E p l e (rmOf 12 mc ms 284) s m args below meth c 8 (vx_MQ below (qcP E (poI post)) (xcP E (px)) args s mc ms (bsA E)) h 1 6 455 [(0, .ref p0), (5, .int t97_0), (7, .int t130_0)] []) (by
              intro hv
              replace hw := hv
              clear hv
              refine r_aload_n C dL_act_455 rfl rfl ?_
              refine r_iload C dL_act_456 rfl ?_
              refine r_iload C dL_act_458 rfl ?_
              obtain ⟨b38, d38, hw⟩ := hw
              refine r_callSW (As := [.ref p0, .int t130_0, .int t97_0]) (st := []) C (m_L_flash hl hw) v_L_flash w_694 rfl ⟨leb rfl, leb rfl⟩ ⟨b38, d38⟩ rfl (leb rfl) dL_act_460 (fun _ _ z => z.elim) (kkI (K := fun hK sK => WS E p l e (rmOf 12 mc ms 284) s m args below meth c 8 (vx_MQ below (qcP E (poI post)) (xcP E (px)) args s mc ms (bsA E)) hK (4) (24) (460 + 3) [(0, .ref p0), (5, .int t97_0), (7, .int t130_0)] sK) (fun x37 h37 hv => ?_))
              replace hw := hv
              clear hv
              exact r_iret C dL_act_463 b38 d38 ⟨_, rfl, hw⟩
              )
            rcases sw_17 x6 with z39 | z39 | z39 | z39 | z39 | z39 | z39 | z39 | z39 | z39 | z39 | z39 | z39 | z39 | z39 | z39 | z39 | z39
            · replace hw := hw.2.2.2.2.2.2.2.2.2.2.2.2.2.2.2.2.2 z39
              refine r_tableOut C 464 dL_act_138 z39 (by decide) ?_
              refine r_aload_n C dL_act_464 rfl rfl ?_
              refine r_iload_n C dL_act_465 rfl rfl ?_
              replace hw := hw (fun (t491_0 : Int32) => WS E p l e (rmOf 12 mc ms 284) s m args below meth c 8 (vx_MQ below (qcP E (poI post)) (xcP E (px)) args s mc ms (bsA E)) h 1 6 491 [] [.int t491_0, .ref p0]) (by
                intro t491_0 hv
                replace hw := hv
                clear hv
                obtain ⟨k44, n44, hw⟩ := hw
                obtain ⟨b45, d45, hw⟩ := hw
                refine r_callSW (As := [.ref p0, .int t491_0]) (st := []) C (m_L_takt hl hw) v_L_takt w_702 rfl ⟨leb rfl, leb rfl⟩ ⟨b45, d45⟩ rfl (leb rfl) dL_act_491 (fun _ _ z => z.elim) (kkI (K := fun hK sK => WS E p l e (rmOf 12 mc ms 284) s m args below meth c 8 (vx_MQ below (qcP E (poI post)) (xcP E (px)) args s mc ms (bsA E)) hK (1 + k44) (6 + n44) (491 + 3) [] sK) (fun x44 h44 hv => ?_))
                replace hw := hv
                clear hv
                exact r_iret C dL_act_494 b45 d45 ⟨_, rfl, hw⟩
                )
              refine r_if_eq C 482 dL_act_466 (by decide) (fun z46 => ?_) (fun z46 => ?_)
              · replace hw := hw.1 z46
                refine r_iconst (v := (1 : Int32)) C dL_act_482 (by decide) ?_
                refine r_iload_n C dL_act_483 rfl rfl ?_
                refine r_iconst (v := (4 : Int32)) C dL_act_484 (by decide) ?_
                refine r_ishr C dL_act_485 ?_
                refine r_iconst (v := (2 : Int32)) C dL_act_486 (by decide) ?_
                refine r_callS (As := [.int (p1 >>> ((4 : Int32) &&& 31)), .int (2 : Int32)]) (st := [.int (1 : Int32), .ref p0]) C (m_L_low hl hw) v_L_low w_529 rfl ⟨leb rfl, leb rfl⟩ ⟨b4, d4⟩ rfl (leb rfl) dL_act_487 (fun _ _ z => z.elim) (kpI (K := fun hK sK => WS E p l e (rmOf 12 mc ms 284) s m args below meth c 8 (vx_MQ below (qcP E (poI post)) (xcP E (px)) args s mc ms (bsA E)) hK (1) (6) (487 + 3) [(0, .ref p0), (1, .int p1), (2, .int t17_0), (3, .int t42_0), (4, .int t68_0), (5, .int t97_0), (7, .int t130_0)] sK) (fun x47 hv => ?_))
                replace hw := hv
                clear hv
                refine r_iadd C dL_act_490 ?_
                exact (r_subk hw trivial)
              · replace hw := hw.2 z46
                refine r_iload_n C dL_act_469 rfl rfl ?_
                refine r_iconst (v := (4 : Int32)) C dL_act_470 (by decide) ?_
                refine r_ishr C dL_act_471 ?_
                refine r_bipush (v := (23 : Int32)) C dL_act_472 (by decide) ?_
                refine r_callS (As := [.int (p1 >>> ((4 : Int32) &&& 31)), .int (23 : Int32)]) (st := [.ref p0]) C (m_L_low hl hw) v_L_low w_529 rfl ⟨leb rfl, leb rfl⟩ ⟨b4, d4⟩ rfl (leb rfl) dL_act_474 (fun _ _ z => z.elim) (kpI (K := fun hK sK => WS E p l e (rmOf 12 mc ms 284) s m args below meth c 8 (vx_MQ below (qcP E (poI post)) (xcP E (px)) args s mc ms (bsA E)) hK (1) (6) (474 + 3) [(0, .ref p0), (1, .int p1), (2, .int t17_0), (3, .int t42_0), (4, .int t68_0), (5, .int t97_0), (7, .int t130_0)] sK) (fun x48 hv => ?_))
                replace hw := hv
                clear hv
                refine r_iconst (v := (1 : Int32)) C dL_act_477 (by decide) ?_
                refine r_isub C dL_act_478 ?_
                refine r_goto C 491 dL_act_479 (by decide) ?_
                exact (r_subk hw trivial)
            · replace hw := hw.1 z39
              refine r_tableIn C 220 dL_act_138 (by rw [z39]; decide) (by rw [z39]; decide) (by rw [z39]; rfl) (by decide) ?_
              exact (r_subk hw ⟨rfl, rfl, rfl, rfl, trivial⟩)
            · replace hw := hw.2.1 z39
              refine r_tableIn C 220 dL_act_138 (by rw [z39]; decide) (by rw [z39]; decide) (by rw [z39]; rfl) (by decide) ?_
              exact (r_subk hw ⟨rfl, rfl, rfl, rfl, trivial⟩)
            · replace hw := hw.2.2.1 z39
              refine r_tableIn C 331 dL_act_138 (by rw [z39]; decide) (by rw [z39]; decide) (by rw [z39]; rfl) (by decide) ?_
              exact (r_subk hw ⟨rfl, rfl, rfl, rfl, trivial⟩)
            · replace hw := hw.2.2.2.1 z39
              refine r_tableIn C 331 dL_act_138 (by rw [z39]; decide) (by rw [z39]; decide) (by rw [z39]; rfl) (by decide) ?_
              exact (r_subk hw ⟨rfl, rfl, rfl, rfl, trivial⟩)
            · replace hw := hw.2.2.2.2.1 z39
              refine r_tableIn C 331 dL_act_138 (by rw [z39]; decide) (by rw [z39]; decide) (by rw [z39]; rfl) (by decide) ?_
              exact (r_subk hw ⟨rfl, rfl, rfl, rfl, trivial⟩)
            · replace hw := hw.2.2.2.2.2.1 z39
              refine r_tableIn C 394 dL_act_138 (by rw [z39]; decide) (by rw [z39]; decide) (by rw [z39]; rfl) (by decide) ?_
              refine r_aload_n C dL_act_394 rfl rfl ?_
              refine r_iload C dL_act_395 rfl ?_
              obtain ⟨b41, d41, hw⟩ := hw
              refine r_callSW (As := [.ref p0, .int t97_0]) (st := []) C (m_L_recall hl hw) v_L_recall w_601 rfl ⟨leb rfl, leb rfl⟩ ⟨b41, d41⟩ rfl (leb rfl) dL_act_397 (fun _ _ z => z.elim) (kkI (K := fun hK sK => WS E p l e (rmOf 12 mc ms 284) s m args below meth c 8 (vx_MQ below (qcP E (poI post)) (xcP E (px)) args s mc ms (bsA E)) hK (3) (18) (397 + 3) [(0, .ref p0), (1, .int p1), (2, .int t17_0), (3, .int t42_0), (4, .int t68_0), (5, .int t97_0), (7, .int t130_0)] sK) (fun x40 h40 hv => ?_))
              replace hw := hv
              clear hv
              exact r_iret C dL_act_400 b41 d41 ⟨_, rfl, hw⟩
            · replace hw := hw.2.2.2.2.2.2.1 z39
              refine r_tableIn C 401 dL_act_138 (by rw [z39]; decide) (by rw [z39]; decide) (by rw [z39]; rfl) (by decide) ?_
              exact (r_subk hw ⟨rfl, rfl, rfl, trivial⟩)
            · replace hw := hw.2.2.2.2.2.2.2.1 z39
              refine r_tableIn C 401 dL_act_138 (by rw [z39]; decide) (by rw [z39]; decide) (by rw [z39]; rfl) (by decide) ?_
              exact (r_subk hw ⟨rfl, rfl, rfl, trivial⟩)
            · replace hw := hw.2.2.2.2.2.2.2.2.1 z39
              refine r_tableIn C 401 dL_act_138 (by rw [z39]; decide) (by rw [z39]; decide) (by rw [z39]; rfl) (by decide) ?_
              exact (r_subk hw ⟨rfl, rfl, rfl, trivial⟩)
            · replace hw := hw.2.2.2.2.2.2.2.2.2.1 z39
              refine r_tableIn C 432 dL_act_138 (by rw [z39]; decide) (by rw [z39]; decide) (by rw [z39]; rfl) (by decide) ?_
              refine r_aload_n C dL_act_432 rfl rfl ?_
              refine r_iload C dL_act_433 rfl ?_
              obtain ⟨b43, d43, hw⟩ := hw
              refine r_callSW (As := [.ref p0, .int t68_0]) (st := []) C (m_L_fault hl hw) v_L_fault w_671 rfl ⟨leb rfl, leb rfl⟩ ⟨b43, d43⟩ rfl (leb rfl) dL_act_435 (fun _ _ z => z.elim) (kkI (K := fun hK sK => WS E p l e (rmOf 12 mc ms 284) s m args below meth c 8 (vx_MQ below (qcP E (poI post)) (xcP E (px)) args s mc ms (bsA E)) hK (3) (18) (435 + 3) [(0, .ref p0), (1, .int p1), (2, .int t17_0), (3, .int t42_0), (4, .int t68_0), (5, .int t97_0), (7, .int t130_0)] sK) (fun x42 h42 hv => ?_))
              replace hw := hv
              clear hv
              exact r_iret C dL_act_438 b43 d43 ⟨_, rfl, hw⟩
            · replace hw := hw.2.2.2.2.2.2.2.2.2.2.1 z39
              refine r_tableIn C 439 dL_act_138 (by rw [z39]; decide) (by rw [z39]; decide) (by rw [z39]; rfl) (by decide) ?_
              exact (r_subk hw ⟨rfl, rfl, trivial⟩)
            · replace hw := hw.2.2.2.2.2.2.2.2.2.2.2.1 z39
              refine r_tableIn C 439 dL_act_138 (by rw [z39]; decide) (by rw [z39]; decide) (by rw [z39]; rfl) (by decide) ?_
              exact (r_subk hw ⟨rfl, rfl, trivial⟩)
            · replace hw := hw.2.2.2.2.2.2.2.2.2.2.2.2.1 z39
              refine r_tableIn C 439 dL_act_138 (by rw [z39]; decide) (by rw [z39]; decide) (by rw [z39]; rfl) (by decide) ?_
              exact (r_subk hw ⟨rfl, rfl, trivial⟩)
            · replace hw := hw.2.2.2.2.2.2.2.2.2.2.2.2.2.1 z39
              refine r_tableIn C 446 dL_act_138 (by rw [z39]; decide) (by rw [z39]; decide) (by rw [z39]; rfl) (by decide) ?_
              exact (r_subk hw ⟨rfl, rfl, rfl, trivial⟩)
            · replace hw := hw.2.2.2.2.2.2.2.2.2.2.2.2.2.2.1 z39
              refine r_tableIn C 446 dL_act_138 (by rw [z39]; decide) (by rw [z39]; decide) (by rw [z39]; rfl) (by decide) ?_
              exact (r_subk hw ⟨rfl, rfl, rfl, trivial⟩)
            · replace hw := hw.2.2.2.2.2.2.2.2.2.2.2.2.2.2.2.1 z39
              refine r_tableIn C 455 dL_act_138 (by rw [z39]; decide) (by rw [z39]; decide) (by rw [z39]; rfl) (by decide) ?_
              exact (r_subk hw ⟨rfl, rfl, rfl, trivial⟩)
            · replace hw := hw.2.2.2.2.2.2.2.2.2.2.2.2.2.2.2.2.1 z39
              refine r_tableIn C 455 dL_act_138 (by rw [z39]; decide) (by rw [z39]; decide) (by rw [z39]; rfl) (by decide) ?_
              exact (r_subk hw ⟨rfl, rfl, rfl, trivial⟩)
            )
          replace hw := hw (WS E p l e (rmOf 12 mc ms 284) s m args below meth c 8 (vx_MQ below (qcP E (poI post)) (xcP E (px)) args s mc ms (bsA E)) h 1 6 128 [(0, .ref p0), (1, .int p1), (2, .int t17_0), (3, .int t42_0), (4, .int t68_0), (5, .int t97_0)] []) (by
            intro hv
            replace hw := hv
            clear hv
            refine r_iload C dL_act_128 rfl ?_
            exact (r_subk hw ⟨rfl, rfl, rfl, rfl, rfl, rfl, trivial⟩)
            )
          refine r_if_ne C 128 dL_act_115 (by decide) (fun z49 => ?_) (fun z49 => ?_)
          · replace hw := hw.2 z49
            exact (r_subk hw ⟨rfl, rfl, rfl, rfl, rfl, rfl, trivial⟩)
          · replace hw := hw.1 z49
            refine r_iload C dL_act_118 rfl ?_
            refine r_if_lt C 128 dL_act_120 (by decide) (fun z50 => ?_) (fun z50 => ?_)
            · replace hw := hw.1 z50
              exact (r_subk hw ⟨rfl, rfl, rfl, rfl, rfl, rfl, trivial⟩)
            · replace hw := hw.2 z50
              refine r_iload C dL_act_123 rfl ?_
              refine r_goto C 130 dL_act_125 (by decide) ?_
              exact (r_subk hw ⟨rfl, rfl, rfl, rfl, rfl, rfl, trivial⟩)
          )
        refine r_if_eq C 88 dL_act_71 (by decide) (fun z51 => ?_) (fun z51 => ?_)
        · replace hw := hw.1 z51
          refine r_iload_n C dL_act_88 rfl rfl ?_
          refine r_bipush (v := (9 : Int32)) C dL_act_89 (by decide) ?_
          refine r_ishr C dL_act_91 ?_
          refine r_bipush (v := (6 : Int32)) C dL_act_92 (by decide) ?_
          refine r_callS (As := [.int (p1 >>> ((9 : Int32) &&& 31)), .int (6 : Int32)]) (st := []) C (m_L_low hl hw) v_L_low w_529 rfl ⟨leb rfl, leb rfl⟩ ⟨(Nat.zero_le _), (Nat.zero_le _)⟩ rfl (leb rfl) dL_act_94 (fun _ _ z => z.elim) (kpI (K := fun hK sK => WS E p l e (rmOf 12 mc ms 284) s m args below meth c 8 (vx_MQ below (qcP E (poI post)) (xcP E (px)) args s mc ms (bsA E)) hK (0) (0) (94 + 3) [(0, .ref p0), (1, .int p1), (2, .int t17_0), (3, .int t42_0), (4, .int t68_0)] sK) (fun x52 hv => ?_))
          replace hw := hv
          clear hv
          exact (r_subk hw ⟨rfl, rfl, rfl, rfl, rfl, trivial⟩)
        · replace hw := hw.2 z51
          refine r_iload_n C dL_act_74 rfl rfl ?_
          refine r_bipush (v := (9 : Int32)) C dL_act_75 (by decide) ?_
          refine r_ishr C dL_act_77 ?_
          refine r_bipush (v := (43 : Int32)) C dL_act_78 (by decide) ?_
          refine r_callS (As := [.int (p1 >>> ((9 : Int32) &&& 31)), .int (43 : Int32)]) (st := []) C (m_L_low hl hw) v_L_low w_529 rfl ⟨leb rfl, leb rfl⟩ ⟨(Nat.zero_le _), (Nat.zero_le _)⟩ rfl (leb rfl) dL_act_80 (fun _ _ z => z.elim) (kpI (K := fun hK sK => WS E p l e (rmOf 12 mc ms 284) s m args below meth c 8 (vx_MQ below (qcP E (poI post)) (xcP E (px)) args s mc ms (bsA E)) hK (0) (0) (80 + 3) [(0, .ref p0), (1, .int p1), (2, .int t17_0), (3, .int t42_0), (4, .int t68_0)] sK) (fun x53 hv => ?_))
          replace hw := hv
          clear hv
          refine r_iconst (v := (1 : Int32)) C dL_act_83 (by decide) ?_
          refine r_isub C dL_act_84 ?_
          refine r_goto C 97 dL_act_85 (by decide) ?_
          exact (r_subk hw ⟨rfl, rfl, rfl, rfl, rfl, trivial⟩)
        )
      refine r_if_eq C 60 dL_act_44 (by decide) (fun z54 => ?_) (fun z54 => ?_)
      · replace hw := hw.1 z54
        refine r_iload_n C dL_act_60 rfl rfl ?_
        refine r_iconst (v := (4 : Int32)) C dL_act_61 (by decide) ?_
        refine r_ishr C dL_act_62 ?_
        refine r_bipush (v := (6 : Int32)) C dL_act_63 (by decide) ?_
        refine r_callS (As := [.int (p1 >>> ((4 : Int32) &&& 31)), .int (6 : Int32)]) (st := []) C (m_L_low hl hw) v_L_low w_529 rfl ⟨leb rfl, leb rfl⟩ ⟨(Nat.zero_le _), (Nat.zero_le _)⟩ rfl (leb rfl) dL_act_65 (fun _ _ z => z.elim) (kpI (K := fun hK sK => WS E p l e (rmOf 12 mc ms 284) s m args below meth c 8 (vx_MQ below (qcP E (poI post)) (xcP E (px)) args s mc ms (bsA E)) hK (0) (0) (65 + 3) [(0, .ref p0), (1, .int p1), (2, .int t17_0), (3, .int t42_0)] sK) (fun x55 hv => ?_))
        replace hw := hv
        clear hv
        exact (r_subk hw ⟨rfl, rfl, rfl, rfl, trivial⟩)
      · replace hw := hw.2 z54
        refine r_iload_n C dL_act_47 rfl rfl ?_
        refine r_iconst (v := (4 : Int32)) C dL_act_48 (by decide) ?_
        refine r_ishr C dL_act_49 ?_
        refine r_bipush (v := (33 : Int32)) C dL_act_50 (by decide) ?_
        refine r_callS (As := [.int (p1 >>> ((4 : Int32) &&& 31)), .int (33 : Int32)]) (st := []) C (m_L_low hl hw) v_L_low w_529 rfl ⟨leb rfl, leb rfl⟩ ⟨(Nat.zero_le _), (Nat.zero_le _)⟩ rfl (leb rfl) dL_act_52 (fun _ _ z => z.elim) (kpI (K := fun hK sK => WS E p l e (rmOf 12 mc ms 284) s m args below meth c 8 (vx_MQ below (qcP E (poI post)) (xcP E (px)) args s mc ms (bsA E)) hK (0) (0) (52 + 3) [(0, .ref p0), (1, .int p1), (2, .int t17_0), (3, .int t42_0)] sK) (fun x56 hv => ?_))
        replace hw := hv
        clear hv
        refine r_iconst (v := (1 : Int32)) C dL_act_55 (by decide) ?_
        refine r_isub C dL_act_56 ?_
        refine r_goto C 68 dL_act_57 (by decide) ?_
        exact (r_subk hw ⟨rfl, rfl, rfl, rfl, trivial⟩)
      )
    refine r_if_eq C 35 dL_act_19 (by decide) (fun z57 => ?_) (fun z57 => ?_)
    · replace hw := hw.1 z57
      refine r_iload_n C dL_act_35 rfl rfl ?_
      refine r_iconst (v := (4 : Int32)) C dL_act_36 (by decide) ?_
      refine r_ishr C dL_act_37 ?_
      refine r_iconst (v := (4 : Int32)) C dL_act_38 (by decide) ?_
      refine r_callS (As := [.int (p1 >>> ((4 : Int32) &&& 31)), .int (4 : Int32)]) (st := []) C (m_L_low hl hw) v_L_low w_529 rfl ⟨leb rfl, leb rfl⟩ ⟨(Nat.zero_le _), (Nat.zero_le _)⟩ rfl (leb rfl) dL_act_39 (fun _ _ z => z.elim) (kpI (K := fun hK sK => WS E p l e (rmOf 12 mc ms 284) s m args below meth c 8 (vx_MQ below (qcP E (poI post)) (xcP E (px)) args s mc ms (bsA E)) hK (0) (0) (39 + 3) [(0, .ref p0), (1, .int p1), (2, .int t17_0)] sK) (fun x58 hv => ?_))
      replace hw := hv
      clear hv
      exact (r_subk hw ⟨rfl, rfl, rfl, trivial⟩)
    · replace hw := hw.2 z57
      refine r_iload_n C dL_act_22 rfl rfl ?_
      refine r_iconst (v := (4 : Int32)) C dL_act_23 (by decide) ?_
      refine r_ishr C dL_act_24 ?_
      refine r_bipush (v := (12 : Int32)) C dL_act_25 (by decide) ?_
      refine r_callS (As := [.int (p1 >>> ((4 : Int32) &&& 31)), .int (12 : Int32)]) (st := []) C (m_L_low hl hw) v_L_low w_529 rfl ⟨leb rfl, leb rfl⟩ ⟨(Nat.zero_le _), (Nat.zero_le _)⟩ rfl (leb rfl) dL_act_27 (fun _ _ z => z.elim) (kpI (K := fun hK sK => WS E p l e (rmOf 12 mc ms 284) s m args below meth c 8 (vx_MQ below (qcP E (poI post)) (xcP E (px)) args s mc ms (bsA E)) hK (0) (0) (27 + 3) [(0, .ref p0), (1, .int p1), (2, .int t17_0)] sK) (fun x59 hv => ?_))
      replace hw := hv
      clear hv
      refine r_iconst (v := (1 : Int32)) C dL_act_30 (by decide) ?_
      refine r_isub C dL_act_31 ?_
      refine r_goto C 42 dL_act_32 (by decide) ?_
      exact (r_subk hw ⟨rfl, rfl, rfl, trivial⟩)
    )
  refine r_if_ne C 16 dL_act_9 (by decide) (fun z60 => ?_) (fun z60 => ?_)
  · replace hw := hw.2 z60
    refine r_iconst (v := (0 : Int32)) C dL_act_16 (by decide) ?_
    exact (r_subk hw ⟨rfl, rfl, trivial⟩)
  · replace hw := hw.1 z60
    refine r_iconst (v := (1 : Int32)) C dL_act_12 (by decide) ?_
    refine r_goto C 17 dL_act_13 (by decide) ?_
    exact (r_subk hw ⟨rfl, rfl, trivial⟩)
theorem v_L_act : MS yL_act cL_act 8 (some .int) 2 := ⟨w_528, w_527, w_36, ⟨by decide +kernel, by decide +kernel, by decide +kernel⟩⟩

def wp_L_areAlike (mc ms : Nat) (h : Hp) (p0 : Nat) (p1 : Nat) (post : Int32 → Prop) (px : String → Prop) : Prop :=
(hT h p0 = 7 ∧
 wp_X5_takts h p0 (fun x1 =>
 (hT h p1 = 7 ∧
 wp_X5_takts h p1 (fun x3 =>
 (∀ J60 : Int32 → Prop, (∀ (t60_0 : Int32), (∀ J63 : Int32 → Int32 → Nat → Nat → Prop, (∀ (v63_2 : Int32) (v63_3 : Int32) (c63 : Nat) (s63 : Nat), (∀ J171 : Nat → Nat → Prop, (∀ (c171 : Nat) (s171 : Nat), (∀ J173 : Int32 → Int32 → Nat → Nat → Prop, (∀ (v173_2 : Int32) (v173_3 : Int32) (c173 : Nat) (s173 : Nat), (∀ J216 : Nat → Nat → Prop, (∀ (c216 : Nat) (s216 : Nat), (b01 v173_2 ∧
 post v173_2) → J216 c216 s216) →
 (((40 : Int32) ≤ v173_3 →
 J216 c173 s173) ∧ (¬ ((40 : Int32) ≤ v173_3) →
 ((v173_2 = 0 →
 J216 c173 s173) ∧ (¬ (v173_2 = 0) →
 (c173 + 1 ≤ mc ∧
 (s173 + 6 ≤ ms ∧
 wp_L_units h p0 v173_3 (fun x8 =>
 ((x8 < 0 →
 J216 (c173 + 1) (s173 + 6)) ∧ (¬ (x8 < 0) →
 (c173 + 1 + 1 ≤ mc ∧
 (s173 + 6 + 6 ≤ ms ∧
 wp_L_units h p1 v173_3 (fun x11 =>
 (c173 + 1 + 1 + 1 ≤ mc ∧
 (s173 + 6 + 6 + 6 ≤ ms ∧
 wp_X5_units h p0 v173_3 (fun x13 =>
 (∀ J209 : Int32 → Prop, (∀ (t209_0 : Int32), (J173 t209_0 (v173_3 + (1 : Int32)) (c173 + 1 + 1 + 1) (s173 + 6 + 6 + 6)) → J209 t209_0) →
 ((x11 = x13 →
 J209 (1 : Int32)) ∧ (¬ (x11 = x13) →
 J209 (0 : Int32))))) px))))))))))))))) → J173 v173_2 v173_3 c173 s173) →
 J173 v63_2 (0 : Int32) c171 s171) → J171 c171 s171) →
 (((30 : Int32) ≤ v63_3 →
 J171 c63 s63) ∧ (¬ ((30 : Int32) ≤ v63_3) →
 ((v63_2 = 0 →
 J171 c63 s63) ∧ (¬ (v63_2 = 0) →
 (c63 + 1 ≤ mc ∧
 (s63 + 6 ≤ ms ∧
 wp_L_whereIs h p0 v63_3 (fun x18 =>
 ((x18 < 0 →
 J171 (c63 + 1) (s63 + 6)) ∧ (¬ (x18 < 0) →
 (c63 + 1 + 1 ≤ mc ∧
 (s63 + 6 + 6 ≤ ms ∧
 wp_L_whereIs h p1 v63_3 (fun x21 =>
 (c63 + 1 + 1 + 1 ≤ mc ∧
 (s63 + 6 + 6 + 6 ≤ ms ∧
 wp_X5_whereIs h p0 v63_3 (fun x23 =>
 (∀ J164 : Int32 → Nat → Nat → Prop, (∀ (t164_0 : Int32) (c164 : Nat) (s164 : Nat), (J63 t164_0 (v63_3 + (1 : Int32)) c164 s164) → J164 t164_0 c164 s164) →
 (∀ J163 : Nat → Nat → Prop, (∀ (c163 : Nat) (s163 : Nat), (J164 (0 : Int32) c163 s163) → J163 c163 s163) →
 ((x21 = x23 →
 (c63 + 1 + 1 + 1 + 1 ≤ mc ∧
 (s63 + 6 + 6 + 6 + 6 ≤ ms ∧
 wp_X5_stationOf h p0 v63_3 (fun x26 =>
 (c63 + 1 + 1 + 1 + 1 + 1 ≤ mc ∧
 (s63 + 6 + 6 + 6 + 6 + 6 ≤ ms ∧
 wp_X5_stationOf h p1 v63_3 (fun x28 =>
 ((x26 = x28 →
 (c63 + 1 + 1 + 1 + 1 + 1 + 1 ≤ mc ∧
 (s63 + 6 + 6 + 6 + 6 + 6 + 6 ≤ ms ∧
 wp_X5_lacks h p0 v63_3 (fun x31 =>
 (c63 + 1 + 1 + 1 + 1 + 1 + 1 + 1 ≤ mc ∧
 (s63 + 6 + 6 + 6 + 6 + 6 + 6 + 6 ≤ ms ∧
 wp_X5_lacks h p1 v63_3 (fun x33 =>
 ((x31 = x33 →
 (c63 + 1 + 1 + 1 + 1 + 1 + 1 + 1 + 1 ≤ mc ∧
 (s63 + 6 + 6 + 6 + 6 + 6 + 6 + 6 + 6 ≤ ms ∧
 wp_X5_imageOf h p0 v63_3 (fun x36 =>
 (c63 + 1 + 1 + 1 + 1 + 1 + 1 + 1 + 1 + 1 ≤ mc ∧
 (s63 + 6 + 6 + 6 + 6 + 6 + 6 + 6 + 6 + 6 ≤ ms ∧
 wp_X5_imageOf h p1 v63_3 (fun x38 =>
 ((x36 = x38 →
 (c63 + 1 + 1 + 1 + 1 + 1 + 1 + 1 + 1 + 1 + 1 ≤ mc ∧
 (s63 + 6 + 6 + 6 + 6 + 6 + 6 + 6 + 6 + 6 + 6 ≤ ms ∧
 wp_X5_isTested h p0 v63_3 (fun x41 =>
 (c63 + 1 + 1 + 1 + 1 + 1 + 1 + 1 + 1 + 1 + 1 + 1 ≤ mc ∧
 (s63 + 6 + 6 + 6 + 6 + 6 + 6 + 6 + 6 + 6 + 6 + 6 ≤ ms ∧
 wp_X5_isTested h p1 v63_3 (fun x43 =>
 ((x41 = x43 →
 (c63 + 1 + 1 + 1 + 1 + 1 + 1 + 1 + 1 + 1 + 1 + 1 + 1 ≤ mc ∧
 (s63 + 6 + 6 + 6 + 6 + 6 + 6 + 6 + 6 + 6 + 6 + 6 + 6 ≤ ms ∧
 wp_X5_isFit h p0 v63_3 (fun x46 =>
 (c63 + 1 + 1 + 1 + 1 + 1 + 1 + 1 + 1 + 1 + 1 + 1 + 1 + 1 ≤ mc ∧
 (s63 + 6 + 6 + 6 + 6 + 6 + 6 + 6 + 6 + 6 + 6 + 6 + 6 + 6 ≤ ms ∧
 wp_X5_isFit h p1 v63_3 (fun x48 =>
 ((x46 = x48 →
 J164 (1 : Int32) (c63 + 1 + 1 + 1 + 1 + 1 + 1 + 1 + 1 + 1 + 1 + 1 + 1 + 1) (s63 + 6 + 6 + 6 + 6 + 6 + 6 + 6 + 6 + 6 + 6 + 6 + 6 + 6)) ∧ (¬ (x46 = x48) →
 J163 (c63 + 1 + 1 + 1 + 1 + 1 + 1 + 1 + 1 + 1 + 1 + 1 + 1 + 1) (s63 + 6 + 6 + 6 + 6 + 6 + 6 + 6 + 6 + 6 + 6 + 6 + 6 + 6)))) px))) px))) ∧ (¬ (x41 = x43) →
 J163 (c63 + 1 + 1 + 1 + 1 + 1 + 1 + 1 + 1 + 1 + 1 + 1) (s63 + 6 + 6 + 6 + 6 + 6 + 6 + 6 + 6 + 6 + 6 + 6)))) px))) px))) ∧ (¬ (x36 = x38) →
 J163 (c63 + 1 + 1 + 1 + 1 + 1 + 1 + 1 + 1 + 1) (s63 + 6 + 6 + 6 + 6 + 6 + 6 + 6 + 6 + 6)))) px))) px))) ∧ (¬ (x31 = x33) →
 J163 (c63 + 1 + 1 + 1 + 1 + 1 + 1 + 1) (s63 + 6 + 6 + 6 + 6 + 6 + 6 + 6)))) px))) px))) ∧ (¬ (x26 = x28) →
 J163 (c63 + 1 + 1 + 1 + 1 + 1) (s63 + 6 + 6 + 6 + 6 + 6)))) px))) px))) ∧ (¬ (x21 = x23) →
 J163 (c63 + 1 + 1 + 1) (s63 + 6 + 6 + 6)))))) px))))))))))))))) → J63 v63_2 v63_3 c63 s63) →
 J63 t60_0 (0 : Int32) 0 0) → J60 t60_0) →
 (∀ J59 : Prop, ((J60 (0 : Int32)) → J59) →
 ((x1 = x3 →
 wp_X5_scrapped h p0 (fun x52 =>
 wp_X5_scrapped h p1 (fun x53 =>
 ((x52 = x53 →
 wp_X5_failed h p0 (fun x55 =>
 wp_X5_failed h p1 (fun x56 =>
 ((x55 = x56 →
 wp_X5_images h p0 (fun x58 =>
 wp_X5_images h p1 (fun x59 =>
 ((x58 = x59 →
 wp_X5_atLarge h p0 (fun x61 =>
 wp_X5_atLarge h p1 (fun x62 =>
 ((x61 = x62 →
 J60 (1 : Int32)) ∧ (¬ (x61 = x62) →
 J59))))) ∧ (¬ (x58 = x59) →
 J59))))) ∧ (¬ (x55 = x56) →
 J59))))) ∧ (¬ (x52 = x53) →
 J59))))) ∧ (¬ (x1 = x3) →
 J59))))))))
set_option maxHeartbeats 4000000 in
set_option maxRecDepth 100000 in
theorem m_L_areAlike {E : Ev} {l : Launch} (hl : l.stackTraces = false) {mc ms : Nat} {h : Hp} {p0 : Nat} {p1 : Nat} {post : Int32 → Prop} {px : String → Prop} (hw : wp_L_areAlike mc ms h p0 p1 post px) : MT E l yL_areAlike cL_areAlike 4 (some .boolean) 10 187 mc ms h [.ref p0, .ref p1] (puI h post) (pxP h px) := by
  refine MT.of (by decide) hl (Nat.le_of_ble_eq_true rfl) (fun p e s m args below meth c C => ?_)
  unfold wp_L_areAlike at hw
  have C : CX E p l s m args meth c cL_areAlike 4 "TaktLineLaw" "areAlike" (some .boolean) [] := C
  show WS E p l e (rmOf 10 mc ms 187) s m args below meth c 4 (vx_MQ below (qcP E (puI h post)) (xcP E (pxP h px)) args s mc ms (bsA E)) h 0 0 0 [(0, .ref p0), (1, .ref p1)] []
  refine r_aload_n C dL_areAlike_0 rfl rfl ?_
  obtain ⟨g2, hw⟩ := hw
  refine r_callV (As := []) (st := []) C (m_X5_takts hl hw) v_X5_takts w_439 K7 g2 (by decide) ob7 rfl ⟨leb rfl, leb rfl⟩ ⟨(Nat.zero_le _), (Nat.zero_le _)⟩ rfl (leb rfl) dL_areAlike_1 (fun _ _ z => z.elim) (kpI (K := fun hK sK => WS E p l e (rmOf 10 mc ms 187) s m args below meth c 4 (vx_MQ below (qcP E (puI h post)) (xcP E (pxP h px)) args s mc ms (bsA E)) hK (0) (0) (1 + 3) [(0, .ref p0), (1, .ref p1)] sK) (fun x1 hv => ?_))
  replace hw := hv
  clear hv
  refine r_aload_n C dL_areAlike_4 rfl rfl ?_
  obtain ⟨g4, hw⟩ := hw
  refine r_callV (As := []) (st := [.int x1]) C (m_X5_takts hl hw) v_X5_takts w_439 K7 g4 (by decide) ob7 rfl ⟨leb rfl, leb rfl⟩ ⟨(Nat.zero_le _), (Nat.zero_le _)⟩ rfl (leb rfl) dL_areAlike_5 (fun _ _ z => z.elim) (kpI (K := fun hK sK => WS E p l e (rmOf 10 mc ms 187) s m args below meth c 4 (vx_MQ below (qcP E (puI h post)) (xcP E (pxP h px)) args s mc ms (bsA E)) hK (0) (0) (5 + 3) [(0, .ref p0), (1, .ref p1)] sK) (fun x3 hv => ?_))
  replace hw := hv
  clear hv
  replace hw := hw (fun (t60_0 : Int32) => WS E p l e (rmOf 10 mc ms 187) s m args below meth c 4 (vx_MQ below (qcP E (puI h post)) (xcP E (pxP h px)) args s mc ms (bsA E)) h 0 0 60 [(0, .ref p0), (1, .ref p1)] [.int t60_0]) (by
    intro t60_0 hv
    replace hw := hv
    clear hv
    refine r_istore_n C dL_areAlike_60 rfl (by decide) [(0, .ref p0), (1, .ref p1), (2, .int t60_0)] ⟨rfl, rfl, rfl, trivial⟩ ?_
    refine r_iconst (v := (0 : Int32)) C dL_areAlike_61 (by decide) ?_
    refine r_istore_n C dL_areAlike_62 rfl (by decide) [(0, .ref p0), (1, .ref p1), (2, .int t60_0), (3, .int (0 : Int32))] ⟨rfl, rfl, rfl, rfl, trivial⟩ ?_
    replace hw := hw (fun (v63_2 : Int32) (v63_3 : Int32) (c63 : Nat) (s63 : Nat) => c63 ≤ mc → s63 ≤ ms → WS E p l e (rmOf 10 mc ms 187) s m args below meth c 4 (vx_MQ below (qcP E (puI h post)) (xcP E (pxP h px)) args s mc ms (bsA E)) h c63 s63 63 [(0, .ref p0), (1, .ref p1), (2, .int v63_2), (3, .int v63_3)] []) (by
      intro v63_2 v63_3 c63 s63 hv bc63 bs63
      replace hw := hv
      clear hv
      refine r_iload_n C dL_areAlike_63 rfl rfl ?_
      refine r_bipush (v := (30 : Int32)) C dL_areAlike_64 (by decide) ?_
      replace hw := hw (fun (c171 : Nat) (s171 : Nat) => c171 ≤ mc → s171 ≤ ms → WS E p l e (rmOf 10 mc ms 187) s m args below meth c 4 (vx_MQ below (qcP E (puI h post)) (xcP E (pxP h px)) args s mc ms (bsA E)) h c171 s171 171 [(0, .ref p0), (1, .ref p1), (2, .int v63_2)] []) (by
        intro c171 s171 hv bc171 bs171
        replace hw := hv
        clear hv
        refine r_iconst (v := (0 : Int32)) C dL_areAlike_171 (by decide) ?_
        refine r_istore_n C dL_areAlike_172 rfl (by decide) [(0, .ref p0), (1, .ref p1), (2, .int v63_2), (3, .int (0 : Int32))] ⟨rfl, rfl, rfl, rfl, trivial⟩ ?_
        replace hw := hw (fun (v173_2 : Int32) (v173_3 : Int32) (c173 : Nat) (s173 : Nat) => c173 ≤ mc → s173 ≤ ms → WS E p l e (rmOf 10 mc ms 187) s m args below meth c 4 (vx_MQ below (qcP E (puI h post)) (xcP E (pxP h px)) args s mc ms (bsA E)) h c173 s173 173 [(0, .ref p0), (1, .ref p1), (2, .int v173_2), (3, .int v173_3)] []) (by
          intro v173_2 v173_3 c173 s173 hv bc173 bs173
          replace hw := hv
          clear hv
          refine r_iload_n C dL_areAlike_173 rfl rfl ?_
          refine r_bipush (v := (40 : Int32)) C dL_areAlike_174 (by decide) ?_
          replace hw := hw (fun (c216 : Nat) (s216 : Nat) => c216 ≤ mc → s216 ≤ ms → WS E p l e (rmOf 10 mc ms 187) s m args below meth c 4 (vx_MQ below (qcP E (puI h post)) (xcP E (pxP h px)) args s mc ms (bsA E)) h c216 s216 216 [(2, .int v173_2)] []) (by
            intro c216 s216 hv bc216 bs216
            replace hw := hv
            clear hv
            refine r_iload_n C dL_areAlike_216 rfl rfl ?_
            obtain ⟨y5, hw⟩ := hw
            exact r_zret C y5 dL_areAlike_217 bc216 bs216 ⟨_, rfl, hw, rfl⟩
            )
          refine r_icmp_ge C 216 dL_areAlike_176 (by decide) (fun z6 => ?_) (fun z6 => ?_)
          · replace hw := hw.1 z6
            exact (r_subk (hw bc173 bs173) ⟨rfl, trivial⟩)
          · replace hw := hw.2 z6
            refine r_iload_n C dL_areAlike_179 rfl rfl ?_
            refine r_if_eq C 216 dL_areAlike_180 (by decide) (fun z7 => ?_) (fun z7 => ?_)
            · replace hw := hw.1 z7
              exact (r_subk (hw bc173 bs173) ⟨rfl, trivial⟩)
            · replace hw := hw.2 z7
              refine r_aload_n C dL_areAlike_183 rfl rfl ?_
              refine r_iload_n C dL_areAlike_184 rfl rfl ?_
              obtain ⟨b9, d9, hw⟩ := hw
              refine r_callSW (As := [.ref p0, .int v173_3]) (st := []) C (m_L_units hl hw) v_L_units w_744 rfl ⟨leb rfl, leb rfl⟩ ⟨b9, d9⟩ rfl (leb rfl) dL_areAlike_185 (fun _ _ z => z.elim) (kpI (K := fun hK sK => WS E p l e (rmOf 10 mc ms 187) s m args below meth c 4 (vx_MQ below (qcP E (puI h post)) (xcP E (pxP h px)) args s mc ms (bsA E)) hK (c173 + 1) (s173 + 6) (185 + 3) [(0, .ref p0), (1, .ref p1), (2, .int v173_2), (3, .int v173_3)] sK) (fun x8 hv => ?_))
              replace hw := hv
              clear hv
              refine r_if_lt C 216 dL_areAlike_188 (by decide) (fun z10 => ?_) (fun z10 => ?_)
              · replace hw := hw.1 z10
                exact (r_subk (hw b9 d9) ⟨rfl, trivial⟩)
              · replace hw := hw.2 z10
                refine r_aload_n C dL_areAlike_191 rfl rfl ?_
                refine r_iload_n C dL_areAlike_192 rfl rfl ?_
                obtain ⟨b12, d12, hw⟩ := hw
                refine r_callSW (As := [.ref p1, .int v173_3]) (st := []) C (m_L_units hl hw) v_L_units w_744 rfl ⟨leb rfl, leb rfl⟩ ⟨b12, d12⟩ rfl (leb rfl) dL_areAlike_193 (fun _ _ z => z.elim) (kpI (K := fun hK sK => WS E p l e (rmOf 10 mc ms 187) s m args below meth c 4 (vx_MQ below (qcP E (puI h post)) (xcP E (pxP h px)) args s mc ms (bsA E)) hK (c173 + 1 + 1) (s173 + 6 + 6) (193 + 3) [(0, .ref p0), (1, .ref p1), (2, .int v173_2), (3, .int v173_3)] sK) (fun x11 hv => ?_))
                replace hw := hv
                clear hv
                refine r_aload_n C dL_areAlike_196 rfl rfl ?_
                refine r_iload_n C dL_areAlike_197 rfl rfl ?_
                obtain ⟨b14, d14, hw⟩ := hw
                refine r_callV (As := [.int v173_3]) (st := [.int x11]) C (m_X5_units hl hw) v_X5_units w_747 K7 g2 (by decide) ob7 rfl ⟨leb rfl, leb rfl⟩ ⟨b14, d14⟩ rfl (leb rfl) dL_areAlike_198 (fun X h9 hx => by obtain ⟨hx, rfl⟩ := hx; exact r_out C ⟨hx, rfl⟩ b14 d14) (kpI (K := fun hK sK => WS E p l e (rmOf 10 mc ms 187) s m args below meth c 4 (vx_MQ below (qcP E (puI h post)) (xcP E (pxP h px)) args s mc ms (bsA E)) hK (c173 + 1 + 1 + 1) (s173 + 6 + 6 + 6) (198 + 3) [(0, .ref p0), (1, .ref p1), (2, .int v173_2), (3, .int v173_3)] sK) (fun x13 hv => ?_))
                replace hw := hv
                clear hv
                replace hw := hw (fun (t209_0 : Int32) => WS E p l e (rmOf 10 mc ms 187) s m args below meth c 4 (vx_MQ below (qcP E (puI h post)) (xcP E (pxP h px)) args s mc ms (bsA E)) h (c173 + 1 + 1 + 1) (s173 + 6 + 6 + 6) 209 [(0, .ref p0), (1, .ref p1), (3, .int v173_3)] [.int t209_0]) (by
                  intro t209_0 hv
                  replace hw := hv
                  clear hv
                  refine r_istore_n C dL_areAlike_209 rfl (by decide) [(0, .ref p0), (1, .ref p1), (2, .int t209_0), (3, .int v173_3)] ⟨rfl, rfl, rfl, rfl, trivial⟩ ?_
                  refine r_iinc C (v173_3 + (1 : Int32)) dL_areAlike_210 rfl rfl (by decide) [(0, .ref p0), (1, .ref p1), (2, .int t209_0), (3, .int (v173_3 + (1 : Int32)))] ⟨rfl, rfl, rfl, rfl, trivial⟩ ?_
                  refine r_goto C 173 dL_areAlike_213 (by decide) ?_
                  exact (r_subk (hw b14 d14) ⟨rfl, rfl, rfl, rfl, trivial⟩)
                  )
                refine r_icmp_ne C 208 dL_areAlike_201 (by decide) (fun z15 => ?_) (fun z15 => ?_)
                · replace hw := hw.2 z15
                  refine r_iconst (v := (0 : Int32)) C dL_areAlike_208 (by decide) ?_
                  exact (r_subk hw ⟨rfl, rfl, rfl, trivial⟩)
                · replace hw := hw.1 z15
                  refine r_iconst (v := (1 : Int32)) C dL_areAlike_204 (by decide) ?_
                  refine r_goto C 209 dL_areAlike_205 (by decide) ?_
                  exact (r_subk hw ⟨rfl, rfl, rfl, trivial⟩)
          )
        exact (r_subk (hw bc171 bs171) ⟨rfl, rfl, rfl, rfl, trivial⟩)
        )
      refine r_icmp_ge C 171 dL_areAlike_66 (by decide) (fun z16 => ?_) (fun z16 => ?_)
      · replace hw := hw.1 z16
        exact (r_subk (hw bc63 bs63) ⟨rfl, rfl, rfl, trivial⟩)
      · replace hw := hw.2 z16
        refine r_iload_n C dL_areAlike_69 rfl rfl ?_
        refine r_if_eq C 171 dL_areAlike_70 (by decide) (fun z17 => ?_) (fun z17 => ?_)
        · replace hw := hw.1 z17
          exact (r_subk (hw bc63 bs63) ⟨rfl, rfl, rfl, trivial⟩)
        · replace hw := hw.2 z17
          refine r_aload_n C dL_areAlike_73 rfl rfl ?_
          refine r_iload_n C dL_areAlike_74 rfl rfl ?_
          obtain ⟨b19, d19, hw⟩ := hw
          refine r_callSW (As := [.ref p0, .int v63_3]) (st := []) C (m_L_whereIs hl hw) v_L_whereIs w_518 rfl ⟨leb rfl, leb rfl⟩ ⟨b19, d19⟩ rfl (leb rfl) dL_areAlike_75 (fun _ _ z => z.elim) (kpI (K := fun hK sK => WS E p l e (rmOf 10 mc ms 187) s m args below meth c 4 (vx_MQ below (qcP E (puI h post)) (xcP E (pxP h px)) args s mc ms (bsA E)) hK (c63 + 1) (s63 + 6) (75 + 3) [(0, .ref p0), (1, .ref p1), (2, .int v63_2), (3, .int v63_3)] sK) (fun x18 hv => ?_))
          replace hw := hv
          clear hv
          refine r_if_lt C 171 dL_areAlike_78 (by decide) (fun z20 => ?_) (fun z20 => ?_)
          · replace hw := hw.1 z20
            exact (r_subk (hw b19 d19) ⟨rfl, rfl, rfl, trivial⟩)
          · replace hw := hw.2 z20
            refine r_aload_n C dL_areAlike_81 rfl rfl ?_
            refine r_iload_n C dL_areAlike_82 rfl rfl ?_
            obtain ⟨b22, d22, hw⟩ := hw
            refine r_callSW (As := [.ref p1, .int v63_3]) (st := []) C (m_L_whereIs hl hw) v_L_whereIs w_518 rfl ⟨leb rfl, leb rfl⟩ ⟨b22, d22⟩ rfl (leb rfl) dL_areAlike_83 (fun _ _ z => z.elim) (kpI (K := fun hK sK => WS E p l e (rmOf 10 mc ms 187) s m args below meth c 4 (vx_MQ below (qcP E (puI h post)) (xcP E (pxP h px)) args s mc ms (bsA E)) hK (c63 + 1 + 1) (s63 + 6 + 6) (83 + 3) [(0, .ref p0), (1, .ref p1), (2, .int v63_2), (3, .int v63_3)] sK) (fun x21 hv => ?_))
            replace hw := hv
            clear hv
            refine r_aload_n C dL_areAlike_86 rfl rfl ?_
            refine r_iload_n C dL_areAlike_87 rfl rfl ?_
            obtain ⟨b24, d24, hw⟩ := hw
            refine r_callV (As := [.int v63_3]) (st := [.int x21]) C (m_X5_whereIs hl hw) v_X5_whereIs w_522 K7 g2 (by decide) ob7 rfl ⟨leb rfl, leb rfl⟩ ⟨b24, d24⟩ rfl (leb rfl) dL_areAlike_88 (fun X h9 hx => by obtain ⟨hx, rfl⟩ := hx; exact r_out C ⟨hx, rfl⟩ b24 d24) (kpI (K := fun hK sK => WS E p l e (rmOf 10 mc ms 187) s m args below meth c 4 (vx_MQ below (qcP E (puI h post)) (xcP E (pxP h px)) args s mc ms (bsA E)) hK (c63 + 1 + 1 + 1) (s63 + 6 + 6 + 6) (88 + 3) [(0, .ref p0), (1, .ref p1), (2, .int v63_2), (3, .int v63_3)] sK) (fun x23 hv => ?_))
            replace hw := hv
            clear hv
            replace hw := hw (fun (t164_0 : Int32) (c164 : Nat) (s164 : Nat) => c164 ≤ mc → s164 ≤ ms → WS E p l e (rmOf 10 mc ms 187) s m args below meth c 4 (vx_MQ below (qcP E (puI h post)) (xcP E (pxP h px)) args s mc ms (bsA E)) h c164 s164 164 [(0, .ref p0), (1, .ref p1), (3, .int v63_3)] [.int t164_0]) (by
              intro t164_0 c164 s164 hv bc164 bs164
              replace hw := hv
              clear hv
              refine r_istore_n C dL_areAlike_164 rfl (by decide) [(0, .ref p0), (1, .ref p1), (2, .int t164_0), (3, .int v63_3)] ⟨rfl, rfl, rfl, rfl, trivial⟩ ?_
              refine r_iinc C (v63_3 + (1 : Int32)) dL_areAlike_165 rfl rfl (by decide) [(0, .ref p0), (1, .ref p1), (2, .int t164_0), (3, .int (v63_3 + (1 : Int32)))] ⟨rfl, rfl, rfl, rfl, trivial⟩ ?_
              refine r_goto C 63 dL_areAlike_168 (by decide) ?_
              exact (r_subk (hw bc164 bs164) ⟨rfl, rfl, rfl, rfl, trivial⟩)
              )
            replace hw := hw (fun (c163 : Nat) (s163 : Nat) => c163 ≤ mc → s163 ≤ ms → WS E p l e (rmOf 10 mc ms 187) s m args below meth c 4 (vx_MQ below (qcP E (puI h post)) (xcP E (pxP h px)) args s mc ms (bsA E)) h c163 s163 163 [(0, .ref p0), (1, .ref p1), (3, .int v63_3)] []) (by
              intro c163 s163 hv bc163 bs163
              replace hw := hv
              clear hv
              refine r_iconst (v := (0 : Int32)) C dL_areAlike_163 (by decide) ?_
              exact (r_subk (hw bc163 bs163) ⟨rfl, rfl, rfl, trivial⟩)
              )
            refine r_icmp_ne C 163 dL_areAlike_91 (by decide) (fun z25 => ?_) (fun z25 => ?_)
            · replace hw := hw.2 z25
              exact (r_subk (hw b24 d24) ⟨rfl, rfl, rfl, trivial⟩)
            · replace hw := hw.1 z25
              refine r_aload_n C dL_areAlike_94 rfl rfl ?_
              refine r_iload_n C dL_areAlike_95 rfl rfl ?_
              obtain ⟨b27, d27, hw⟩ := hw
              refine r_callV (As := [.int v63_3]) (st := []) C (m_X5_stationOf hl hw) v_X5_stationOf w_724 K7 g2 (by decide) ob7 rfl ⟨leb rfl, leb rfl⟩ ⟨b27, d27⟩ rfl (leb rfl) dL_areAlike_96 (fun X h9 hx => by obtain ⟨hx, rfl⟩ := hx; exact r_out C ⟨hx, rfl⟩ b27 d27) (kpI (K := fun hK sK => WS E p l e (rmOf 10 mc ms 187) s m args below meth c 4 (vx_MQ below (qcP E (puI h post)) (xcP E (pxP h px)) args s mc ms (bsA E)) hK (c63 + 1 + 1 + 1 + 1) (s63 + 6 + 6 + 6 + 6) (96 + 3) [(0, .ref p0), (1, .ref p1), (2, .int v63_2), (3, .int v63_3)] sK) (fun x26 hv => ?_))
              replace hw := hv
              clear hv
              refine r_aload_n C dL_areAlike_99 rfl rfl ?_
              refine r_iload_n C dL_areAlike_100 rfl rfl ?_
              obtain ⟨b29, d29, hw⟩ := hw
              refine r_callV (As := [.int v63_3]) (st := [.int x26]) C (m_X5_stationOf hl hw) v_X5_stationOf w_724 K7 g4 (by decide) ob7 rfl ⟨leb rfl, leb rfl⟩ ⟨b29, d29⟩ rfl (leb rfl) dL_areAlike_101 (fun X h9 hx => by obtain ⟨hx, rfl⟩ := hx; exact r_out C ⟨hx, rfl⟩ b29 d29) (kpI (K := fun hK sK => WS E p l e (rmOf 10 mc ms 187) s m args below meth c 4 (vx_MQ below (qcP E (puI h post)) (xcP E (pxP h px)) args s mc ms (bsA E)) hK (c63 + 1 + 1 + 1 + 1 + 1) (s63 + 6 + 6 + 6 + 6 + 6) (101 + 3) [(0, .ref p0), (1, .ref p1), (2, .int v63_2), (3, .int v63_3)] sK) (fun x28 hv => ?_))
              replace hw := hv
              clear hv
              refine r_icmp_ne C 163 dL_areAlike_104 (by decide) (fun z30 => ?_) (fun z30 => ?_)
              · replace hw := hw.2 z30
                exact (r_subk (hw b29 d29) ⟨rfl, rfl, rfl, trivial⟩)
              · replace hw := hw.1 z30
                refine r_aload_n C dL_areAlike_107 rfl rfl ?_
                refine r_iload_n C dL_areAlike_108 rfl rfl ?_
                obtain ⟨b32, d32, hw⟩ := hw
                refine r_callV (As := [.int v63_3]) (st := []) C (m_X5_lacks hl hw) v_X5_lacks w_728 K7 g2 (by decide) ob7 rfl ⟨leb rfl, leb rfl⟩ ⟨b32, d32⟩ rfl (leb rfl) dL_areAlike_109 (fun X h9 hx => by obtain ⟨hx, rfl⟩ := hx; exact r_out C ⟨hx, rfl⟩ b32 d32) (kpI (K := fun hK sK => WS E p l e (rmOf 10 mc ms 187) s m args below meth c 4 (vx_MQ below (qcP E (puI h post)) (xcP E (pxP h px)) args s mc ms (bsA E)) hK (c63 + 1 + 1 + 1 + 1 + 1 + 1) (s63 + 6 + 6 + 6 + 6 + 6 + 6) (109 + 3) [(0, .ref p0), (1, .ref p1), (2, .int v63_2), (3, .int v63_3)] sK) (fun x31 hv => ?_))
                replace hw := hv
                clear hv
                refine r_aload_n C dL_areAlike_112 rfl rfl ?_
                refine r_iload_n C dL_areAlike_113 rfl rfl ?_
                obtain ⟨b34, d34, hw⟩ := hw
                refine r_callV (As := [.int v63_3]) (st := [.int x31]) C (m_X5_lacks hl hw) v_X5_lacks w_728 K7 g4 (by decide) ob7 rfl ⟨leb rfl, leb rfl⟩ ⟨b34, d34⟩ rfl (leb rfl) dL_areAlike_114 (fun X h9 hx => by obtain ⟨hx, rfl⟩ := hx; exact r_out C ⟨hx, rfl⟩ b34 d34) (kpI (K := fun hK sK => WS E p l e (rmOf 10 mc ms 187) s m args below meth c 4 (vx_MQ below (qcP E (puI h post)) (xcP E (pxP h px)) args s mc ms (bsA E)) hK (c63 + 1 + 1 + 1 + 1 + 1 + 1 + 1) (s63 + 6 + 6 + 6 + 6 + 6 + 6 + 6) (114 + 3) [(0, .ref p0), (1, .ref p1), (2, .int v63_2), (3, .int v63_3)] sK) (fun x33 hv => ?_))
                replace hw := hv
                clear hv
                refine r_icmp_ne C 163 dL_areAlike_117 (by decide) (fun z35 => ?_) (fun z35 => ?_)
                · replace hw := hw.2 z35
                  exact (r_subk (hw b34 d34) ⟨rfl, rfl, rfl, trivial⟩)
                · replace hw := hw.1 z35
                  refine r_aload_n C dL_areAlike_120 rfl rfl ?_
                  refine r_iload_n C dL_areAlike_121 rfl rfl ?_
                  obtain ⟨b37, d37, hw⟩ := hw
                  refine r_callV (As := [.int v63_3]) (st := []) C (m_X5_imageOf hl hw) v_X5_imageOf w_732 K7 g2 (by decide) ob7 rfl ⟨leb rfl, leb rfl⟩ ⟨b37, d37⟩ rfl (leb rfl) dL_areAlike_122 (fun X h9 hx => by obtain ⟨hx, rfl⟩ := hx; exact r_out C ⟨hx, rfl⟩ b37 d37) (kpI (K := fun hK sK => WS E p l e (rmOf 10 mc ms 187) s m args below meth c 4 (vx_MQ below (qcP E (puI h post)) (xcP E (pxP h px)) args s mc ms (bsA E)) hK (c63 + 1 + 1 + 1 + 1 + 1 + 1 + 1 + 1) (s63 + 6 + 6 + 6 + 6 + 6 + 6 + 6 + 6) (122 + 3) [(0, .ref p0), (1, .ref p1), (2, .int v63_2), (3, .int v63_3)] sK) (fun x36 hv => ?_))
                  replace hw := hv
                  clear hv
                  refine r_aload_n C dL_areAlike_125 rfl rfl ?_
                  refine r_iload_n C dL_areAlike_126 rfl rfl ?_
                  obtain ⟨b39, d39, hw⟩ := hw
                  refine r_callV (As := [.int v63_3]) (st := [.int x36]) C (m_X5_imageOf hl hw) v_X5_imageOf w_732 K7 g4 (by decide) ob7 rfl ⟨leb rfl, leb rfl⟩ ⟨b39, d39⟩ rfl (leb rfl) dL_areAlike_127 (fun X h9 hx => by obtain ⟨hx, rfl⟩ := hx; exact r_out C ⟨hx, rfl⟩ b39 d39) (kpI (K := fun hK sK => WS E p l e (rmOf 10 mc ms 187) s m args below meth c 4 (vx_MQ below (qcP E (puI h post)) (xcP E (pxP h px)) args s mc ms (bsA E)) hK (c63 + 1 + 1 + 1 + 1 + 1 + 1 + 1 + 1 + 1) (s63 + 6 + 6 + 6 + 6 + 6 + 6 + 6 + 6 + 6) (127 + 3) [(0, .ref p0), (1, .ref p1), (2, .int v63_2), (3, .int v63_3)] sK) (fun x38 hv => ?_))
                  replace hw := hv
                  clear hv
                  refine r_icmp_ne C 163 dL_areAlike_130 (by decide) (fun z40 => ?_) (fun z40 => ?_)
                  · replace hw := hw.2 z40
                    exact (r_subk (hw b39 d39) ⟨rfl, rfl, rfl, trivial⟩)
                  · replace hw := hw.1 z40
                    refine r_aload_n C dL_areAlike_133 rfl rfl ?_
                    refine r_iload_n C dL_areAlike_134 rfl rfl ?_
                    obtain ⟨b42, d42, hw⟩ := hw
                    refine r_callV (As := [.int v63_3]) (st := []) C (m_X5_isTested hl hw) v_X5_isTested w_736 K7 g2 (by decide) ob7 rfl ⟨leb rfl, leb rfl⟩ ⟨b42, d42⟩ rfl (leb rfl) dL_areAlike_135 (fun X h9 hx => by obtain ⟨hx, rfl⟩ := hx; exact r_out C ⟨hx, rfl⟩ b42 d42) (kpI (K := fun hK sK => WS E p l e (rmOf 10 mc ms 187) s m args below meth c 4 (vx_MQ below (qcP E (puI h post)) (xcP E (pxP h px)) args s mc ms (bsA E)) hK (c63 + 1 + 1 + 1 + 1 + 1 + 1 + 1 + 1 + 1 + 1) (s63 + 6 + 6 + 6 + 6 + 6 + 6 + 6 + 6 + 6 + 6) (135 + 3) [(0, .ref p0), (1, .ref p1), (2, .int v63_2), (3, .int v63_3)] sK) (fun x41 hv => ?_))
                    replace hw := hv
                    clear hv
                    refine r_aload_n C dL_areAlike_138 rfl rfl ?_
                    refine r_iload_n C dL_areAlike_139 rfl rfl ?_
                    obtain ⟨b44, d44, hw⟩ := hw
                    refine r_callV (As := [.int v63_3]) (st := [.int x41]) C (m_X5_isTested hl hw) v_X5_isTested w_736 K7 g4 (by decide) ob7 rfl ⟨leb rfl, leb rfl⟩ ⟨b44, d44⟩ rfl (leb rfl) dL_areAlike_140 (fun X h9 hx => by obtain ⟨hx, rfl⟩ := hx; exact r_out C ⟨hx, rfl⟩ b44 d44) (kpI (K := fun hK sK => WS E p l e (rmOf 10 mc ms 187) s m args below meth c 4 (vx_MQ below (qcP E (puI h post)) (xcP E (pxP h px)) args s mc ms (bsA E)) hK (c63 + 1 + 1 + 1 + 1 + 1 + 1 + 1 + 1 + 1 + 1 + 1) (s63 + 6 + 6 + 6 + 6 + 6 + 6 + 6 + 6 + 6 + 6 + 6) (140 + 3) [(0, .ref p0), (1, .ref p1), (2, .int v63_2), (3, .int v63_3)] sK) (fun x43 hv => ?_))
                    replace hw := hv
                    clear hv
                    refine r_icmp_ne C 163 dL_areAlike_143 (by decide) (fun z45 => ?_) (fun z45 => ?_)
                    · replace hw := hw.2 z45
                      exact (r_subk (hw b44 d44) ⟨rfl, rfl, rfl, trivial⟩)
                    · replace hw := hw.1 z45
                      refine r_aload_n C dL_areAlike_146 rfl rfl ?_
                      refine r_iload_n C dL_areAlike_147 rfl rfl ?_
                      obtain ⟨b47, d47, hw⟩ := hw
                      refine r_callV (As := [.int v63_3]) (st := []) C (m_X5_isFit hl hw) v_X5_isFit w_740 K7 g2 (by decide) ob7 rfl ⟨leb rfl, leb rfl⟩ ⟨b47, d47⟩ rfl (leb rfl) dL_areAlike_148 (fun X h9 hx => by obtain ⟨hx, rfl⟩ := hx; exact r_out C ⟨hx, rfl⟩ b47 d47) (kpI (K := fun hK sK => WS E p l e (rmOf 10 mc ms 187) s m args below meth c 4 (vx_MQ below (qcP E (puI h post)) (xcP E (pxP h px)) args s mc ms (bsA E)) hK (c63 + 1 + 1 + 1 + 1 + 1 + 1 + 1 + 1 + 1 + 1 + 1 + 1) (s63 + 6 + 6 + 6 + 6 + 6 + 6 + 6 + 6 + 6 + 6 + 6 + 6) (148 + 3) [(0, .ref p0), (1, .ref p1), (2, .int v63_2), (3, .int v63_3)] sK) (fun x46 hv => ?_))
                      replace hw := hv
                      clear hv
                      refine r_aload_n C dL_areAlike_151 rfl rfl ?_
                      refine r_iload_n C dL_areAlike_152 rfl rfl ?_
                      obtain ⟨b49, d49, hw⟩ := hw
                      refine r_callV (As := [.int v63_3]) (st := [.int x46]) C (m_X5_isFit hl hw) v_X5_isFit w_740 K7 g4 (by decide) ob7 rfl ⟨leb rfl, leb rfl⟩ ⟨b49, d49⟩ rfl (leb rfl) dL_areAlike_153 (fun X h9 hx => by obtain ⟨hx, rfl⟩ := hx; exact r_out C ⟨hx, rfl⟩ b49 d49) (kpI (K := fun hK sK => WS E p l e (rmOf 10 mc ms 187) s m args below meth c 4 (vx_MQ below (qcP E (puI h post)) (xcP E (pxP h px)) args s mc ms (bsA E)) hK (c63 + 1 + 1 + 1 + 1 + 1 + 1 + 1 + 1 + 1 + 1 + 1 + 1 + 1) (s63 + 6 + 6 + 6 + 6 + 6 + 6 + 6 + 6 + 6 + 6 + 6 + 6 + 6) (153 + 3) [(0, .ref p0), (1, .ref p1), (2, .int v63_2), (3, .int v63_3)] sK) (fun x48 hv => ?_))
                      replace hw := hv
                      clear hv
                      refine r_icmp_ne C 163 dL_areAlike_156 (by decide) (fun z50 => ?_) (fun z50 => ?_)
                      · replace hw := hw.2 z50
                        exact (r_subk (hw b49 d49) ⟨rfl, rfl, rfl, trivial⟩)
                      · replace hw := hw.1 z50
                        refine r_iconst (v := (1 : Int32)) C dL_areAlike_159 (by decide) ?_
                        refine r_goto C 164 dL_areAlike_160 (by decide) ?_
                        exact (r_subk (hw b49 d49) ⟨rfl, rfl, rfl, trivial⟩)
      )
    exact (r_subk (hw (Nat.zero_le _) (Nat.zero_le _)) ⟨rfl, rfl, rfl, rfl, trivial⟩)
    )
  replace hw := hw (WS E p l e (rmOf 10 mc ms 187) s m args below meth c 4 (vx_MQ below (qcP E (puI h post)) (xcP E (pxP h px)) args s mc ms (bsA E)) h 0 0 59 [(0, .ref p0), (1, .ref p1)] []) (by
    intro hv
    replace hw := hv
    clear hv
    refine r_iconst (v := (0 : Int32)) C dL_areAlike_59 (by decide) ?_
    exact (r_subk hw ⟨rfl, rfl, trivial⟩)
    )
  refine r_icmp_ne C 59 dL_areAlike_8 (by decide) (fun z51 => ?_) (fun z51 => ?_)
  · replace hw := hw.2 z51
    exact (r_subk hw ⟨rfl, rfl, trivial⟩)
  · replace hw := hw.1 z51
    refine r_aload_n C dL_areAlike_11 rfl rfl ?_
    refine r_callV (As := []) (st := []) C (m_X5_scrapped hl hw) v_X5_scrapped w_708 K7 g2 (by decide) ob7 rfl ⟨leb rfl, leb rfl⟩ ⟨(Nat.zero_le _), (Nat.zero_le _)⟩ rfl (leb rfl) dL_areAlike_12 (fun _ _ z => z.elim) (kpI (K := fun hK sK => WS E p l e (rmOf 10 mc ms 187) s m args below meth c 4 (vx_MQ below (qcP E (puI h post)) (xcP E (pxP h px)) args s mc ms (bsA E)) hK (0) (0) (12 + 3) [(0, .ref p0), (1, .ref p1)] sK) (fun x52 hv => ?_))
    replace hw := hv
    clear hv
    refine r_aload_n C dL_areAlike_15 rfl rfl ?_
    refine r_callV (As := []) (st := [.int x52]) C (m_X5_scrapped hl hw) v_X5_scrapped w_708 K7 g4 (by decide) ob7 rfl ⟨leb rfl, leb rfl⟩ ⟨(Nat.zero_le _), (Nat.zero_le _)⟩ rfl (leb rfl) dL_areAlike_16 (fun _ _ z => z.elim) (kpI (K := fun hK sK => WS E p l e (rmOf 10 mc ms 187) s m args below meth c 4 (vx_MQ below (qcP E (puI h post)) (xcP E (pxP h px)) args s mc ms (bsA E)) hK (0) (0) (16 + 3) [(0, .ref p0), (1, .ref p1)] sK) (fun x53 hv => ?_))
    replace hw := hv
    clear hv
    refine r_icmp_ne C 59 dL_areAlike_19 (by decide) (fun z54 => ?_) (fun z54 => ?_)
    · replace hw := hw.2 z54
      exact (r_subk hw ⟨rfl, rfl, trivial⟩)
    · replace hw := hw.1 z54
      refine r_aload_n C dL_areAlike_22 rfl rfl ?_
      refine r_callV (As := []) (st := []) C (m_X5_failed hl hw) v_X5_failed w_712 K7 g2 (by decide) ob7 rfl ⟨leb rfl, leb rfl⟩ ⟨(Nat.zero_le _), (Nat.zero_le _)⟩ rfl (leb rfl) dL_areAlike_23 (fun _ _ z => z.elim) (kpI (K := fun hK sK => WS E p l e (rmOf 10 mc ms 187) s m args below meth c 4 (vx_MQ below (qcP E (puI h post)) (xcP E (pxP h px)) args s mc ms (bsA E)) hK (0) (0) (23 + 3) [(0, .ref p0), (1, .ref p1)] sK) (fun x55 hv => ?_))
      replace hw := hv
      clear hv
      refine r_aload_n C dL_areAlike_26 rfl rfl ?_
      refine r_callV (As := []) (st := [.int x55]) C (m_X5_failed hl hw) v_X5_failed w_712 K7 g4 (by decide) ob7 rfl ⟨leb rfl, leb rfl⟩ ⟨(Nat.zero_le _), (Nat.zero_le _)⟩ rfl (leb rfl) dL_areAlike_27 (fun _ _ z => z.elim) (kpI (K := fun hK sK => WS E p l e (rmOf 10 mc ms 187) s m args below meth c 4 (vx_MQ below (qcP E (puI h post)) (xcP E (pxP h px)) args s mc ms (bsA E)) hK (0) (0) (27 + 3) [(0, .ref p0), (1, .ref p1)] sK) (fun x56 hv => ?_))
      replace hw := hv
      clear hv
      refine r_icmp_ne C 59 dL_areAlike_30 (by decide) (fun z57 => ?_) (fun z57 => ?_)
      · replace hw := hw.2 z57
        exact (r_subk hw ⟨rfl, rfl, trivial⟩)
      · replace hw := hw.1 z57
        refine r_aload_n C dL_areAlike_33 rfl rfl ?_
        refine r_callV (As := []) (st := []) C (m_X5_images hl hw) v_X5_images w_511 K7 g2 (by decide) ob7 rfl ⟨leb rfl, leb rfl⟩ ⟨(Nat.zero_le _), (Nat.zero_le _)⟩ rfl (leb rfl) dL_areAlike_34 (fun _ _ z => z.elim) (kpI (K := fun hK sK => WS E p l e (rmOf 10 mc ms 187) s m args below meth c 4 (vx_MQ below (qcP E (puI h post)) (xcP E (pxP h px)) args s mc ms (bsA E)) hK (0) (0) (34 + 3) [(0, .ref p0), (1, .ref p1)] sK) (fun x58 hv => ?_))
        replace hw := hv
        clear hv
        refine r_aload_n C dL_areAlike_37 rfl rfl ?_
        refine r_callV (As := []) (st := [.int x58]) C (m_X5_images hl hw) v_X5_images w_511 K7 g4 (by decide) ob7 rfl ⟨leb rfl, leb rfl⟩ ⟨(Nat.zero_le _), (Nat.zero_le _)⟩ rfl (leb rfl) dL_areAlike_38 (fun _ _ z => z.elim) (kpI (K := fun hK sK => WS E p l e (rmOf 10 mc ms 187) s m args below meth c 4 (vx_MQ below (qcP E (puI h post)) (xcP E (pxP h px)) args s mc ms (bsA E)) hK (0) (0) (38 + 3) [(0, .ref p0), (1, .ref p1)] sK) (fun x59 hv => ?_))
        replace hw := hv
        clear hv
        refine r_icmp_ne C 59 dL_areAlike_41 (by decide) (fun z60 => ?_) (fun z60 => ?_)
        · replace hw := hw.2 z60
          exact (r_subk hw ⟨rfl, rfl, trivial⟩)
        · replace hw := hw.1 z60
          refine r_aload_n C dL_areAlike_44 rfl rfl ?_
          refine r_callV (As := []) (st := []) C (m_X5_atLarge hl hw) v_X5_atLarge w_716 K7 g2 (by decide) ob7 rfl ⟨leb rfl, leb rfl⟩ ⟨(Nat.zero_le _), (Nat.zero_le _)⟩ rfl (leb rfl) dL_areAlike_45 (fun _ _ z => z.elim) (kpI (K := fun hK sK => WS E p l e (rmOf 10 mc ms 187) s m args below meth c 4 (vx_MQ below (qcP E (puI h post)) (xcP E (pxP h px)) args s mc ms (bsA E)) hK (0) (0) (45 + 3) [(0, .ref p0), (1, .ref p1)] sK) (fun x61 hv => ?_))
          replace hw := hv
          clear hv
          refine r_aload_n C dL_areAlike_48 rfl rfl ?_
          refine r_callV (As := []) (st := [.int x61]) C (m_X5_atLarge hl hw) v_X5_atLarge w_716 K7 g4 (by decide) ob7 rfl ⟨leb rfl, leb rfl⟩ ⟨(Nat.zero_le _), (Nat.zero_le _)⟩ rfl (leb rfl) dL_areAlike_49 (fun _ _ z => z.elim) (kpI (K := fun hK sK => WS E p l e (rmOf 10 mc ms 187) s m args below meth c 4 (vx_MQ below (qcP E (puI h post)) (xcP E (pxP h px)) args s mc ms (bsA E)) hK (0) (0) (49 + 3) [(0, .ref p0), (1, .ref p1)] sK) (fun x62 hv => ?_))
          replace hw := hv
          clear hv
          refine r_icmp_ne C 59 dL_areAlike_52 (by decide) (fun z63 => ?_) (fun z63 => ?_)
          · replace hw := hw.2 z63
            exact (r_subk hw ⟨rfl, rfl, trivial⟩)
          · replace hw := hw.1 z63
            refine r_iconst (v := (1 : Int32)) C dL_areAlike_55 (by decide) ?_
            refine r_goto C 60 dL_areAlike_56 (by decide) ?_
            exact (r_subk hw ⟨rfl, rfl, trivial⟩)
theorem v_L_areAlike : MS yL_areAlike cL_areAlike 4 (some .boolean) 2 := ⟨w_707, w_706, w_36, ⟨by decide +kernel, by decide +kernel, by decide +kernel⟩⟩

def wp_L_isCarSo (mc ms : Nat) (h : Hp) (p0 : Nat) (p1 : Int32) (post : Int32 → Prop) (px : String → Prop) : Prop :=
(1 ≤ mc ∧
 (6 ≤ ms ∧
 (hT h p0 = 7 ∧
 wp_X5_needs h p0 p1 (fun x1 =>
 (2 ≤ mc ∧
 (12 ≤ ms ∧
 wp_X5_lacks h p0 p1 (fun x4 =>
 (3 ≤ mc ∧
 (18 ≤ ms ∧
 wp_X5_whereIs h p0 p1 (fun x6 =>
 (4 ≤ mc ∧
 (24 ≤ ms ∧
 wp_X5_stationOf h p0 p1 (fun x8 =>
 (∀ J29 : Int32 → Nat → Nat → Prop, (∀ (v29_6 : Int32) (c29 : Nat) (s29 : Nat), (((10 : Int32) ≤ v29_6 →
 (∀ J193 : Int32 → Nat → Nat → Prop, (∀ (t193_0 : Int32) (c193 : Nat) (s193 : Nat), (∀ J259 : Int32 → Nat → Nat → Prop, (∀ (t259_0 : Int32) (c259 : Nat) (s259 : Nat), (b01 t259_0 ∧
 post t259_0) → J259 t259_0 c259 s259) →
 (∀ J258 : Nat → Nat → Prop, (∀ (c258 : Nat) (s258 : Nat), (J259 (0 : Int32) c258 s258) → J258 c258 s258) →
 ((t193_0 = 0 →
 J258 c193 s193) ∧ (¬ (t193_0 = 0) →
 (((x4 &&& (x1 ^^^ (-1 : Int32))) = 0 →
 (∀ J226 : Nat → Nat → Prop, (∀ (c226 : Nat) (s226 : Nat), (c226 + 1 ≤ mc ∧
 (s226 + 6 ≤ ms ∧
 wp_X5_isFit h p0 p1 (fun x14 =>
 (∀ J242 : Nat → Nat → Prop, (∀ (c242 : Nat) (s242 : Nat), (c242 + 1 ≤ mc ∧
 (s242 + 6 ≤ ms ∧
 wp_X5_imageOf h p0 p1 (fun x16 =>
 wp_X5_images h p0 (fun x18 =>
 ((x18 ≤ x16 →
 J258 (c242 + 1 + 0) (s242 + 6 + 0)) ∧ (¬ (x18 ≤ x16) →
 J259 (1 : Int32) (c242 + 1 + 0) (s242 + 6 + 0))))) px)) → J242 c242 s242) →
 ((x14 = 0 →
 J242 (c226 + 1) (s226 + 6)) ∧ (¬ (x14 = 0) →
 (c226 + 1 + 1 ≤ mc ∧
 (s226 + 6 + 6 ≤ ms ∧
 wp_X5_imageOf h p0 p1 (fun x21 =>
 ((x21 < 0 →
 J258 (c226 + 1 + 1) (s226 + 6 + 6)) ∧ (¬ (x21 < 0) →
 J242 (c226 + 1 + 1) (s226 + 6 + 6)))) px)))))) px)) → J226 c226 s226) →
 ((x6 = 0 →
 (c193 + 1 ≤ mc ∧
 (s193 + 6 ≤ ms ∧
 wp_X5_isTested h p0 p1 (fun x25 =>
 ((x25 = 0 →
 ((x4 = x1 →
 J226 (c193 + 1) (s193 + 6)) ∧ (¬ (x4 = x1) →
 J258 (c193 + 1) (s193 + 6)))) ∧ (¬ (x25 = 0) →
 J258 (c193 + 1) (s193 + 6)))) px))) ∧ (¬ (x6 = 0) →
 J226 c193 s193)))) ∧ (¬ ((x4 &&& (x1 ^^^ (-1 : Int32))) = 0) →
 J258 c193 s193)))))) → J193 t193_0 c193 s193) →
 ((x6 = (1 : Int32) →
 (∀ J142 : Nat → Nat → Prop, (∀ (c142 : Nat) (s142 : Nat), (J193 (0 : Int32) c142 s142) → J142 c142 s142) →
 ((x8 < 0 →
 J142 c29 s29) ∧ (¬ (x8 < 0) →
 (((8 : Int32) ≤ x8 →
 J142 c29 s29) ∧ (¬ ((8 : Int32) ≤ x8) →
 (c29 + 1 ≤ mc ∧
 (s29 + 6 ≤ ms ∧
 wp_X5_carAt h p0 x8 (fun x39 =>
 ((x39 = p1 →
 J193 (1 : Int32) (c29 + 1) (s29 + 6)) ∧ (¬ (x39 = p1) →
 J142 (c29 + 1) (s29 + 6)))) px)))))))) ∧ (¬ (x6 = (1 : Int32)) →
 ((x6 = (2 : Int32) →
 (∀ J178 : Nat → Nat → Prop, (∀ (c178 : Nat) (s178 : Nat), (J193 (0 : Int32) c178 s178) → J178 c178 s178) →
 ((x8 < 0 →
 J178 c29 s29) ∧ (¬ (x8 < 0) →
 (((6 : Int32) ≤ x8 →
 J178 c29 s29) ∧ (¬ ((6 : Int32) ≤ x8) →
 (c29 + 1 ≤ mc ∧
 (s29 + 6 ≤ ms ∧
 wp_X5_carAt h p0 x8 (fun x34 =>
 ((x34 = p1 →
 J178 (c29 + 1) (s29 + 6)) ∧ (¬ (x34 = p1) →
 J193 (1 : Int32) (c29 + 1) (s29 + 6)))) px)))))))) ∧ (¬ (x6 = (2 : Int32)) →
 ((x8 = (-1 : Int32) →
 J193 (1 : Int32) c29 s29) ∧ (¬ (x8 = (-1 : Int32)) →
 J193 (0 : Int32) c29 s29)))))))) ∧ (¬ ((10 : Int32) ≤ v29_6) →
 (c29 + 2 ≤ mc ∧
 (s29 + 12 ≤ ms ∧
 wp_X5_lotIn h p0 p1 v29_6 (fun x42 =>
 (c29 + 2 + 2 ≤ mc ∧
 (s29 + 12 + 12 ≤ ms ∧
 wp_X5_lotByPicks h p0 p1 v29_6 (fun x44 =>
 (∀ J95 : Int32 → Prop, (∀ (t95_0 : Int32), ((t95_0 = 0 →
 post (0 : Int32)) ∧ (¬ (t95_0 = 0) →
 J29 (v29_6 + (1 : Int32)) (c29 + 2 + 2) (s29 + 12 + 12))) → J95 t95_0) →
 (∀ J94 : Prop, ((J95 (0 : Int32)) → J94) →
 ((x42 = x44 →
 ((x42 < (-1 : Int32) →
 J94) ∧ (¬ (x42 < (-1 : Int32)) →
 (((40 : Int32) ≤ x42 →
 J94) ∧ (¬ ((40 : Int32) ≤ x42) →
 (∀ J90 : Prop, ((J95 (1 : Int32)) → J90) →
 ((0 ≤ x42 →
 J90) ∧ (¬ (0 ≤ x42) →
 ((((x1 >>> (v29_6 &&& 31)) &&& (1 : Int32)) = ((x4 >>> (v29_6 &&& 31)) &&& (1 : Int32)) →
 J90) ∧ (¬ (((x1 >>> (v29_6 &&& 31)) &&& (1 : Int32)) = ((x4 >>> (v29_6 &&& 31)) &&& (1 : Int32))) →
 J94)))))))))) ∧ (¬ (x42 = x44) →
 J94))))) px))) px)))) → J29 v29_6 c29 s29) →
 J29 (0 : Int32) 4 24)) px))) px))) px))) px)))
set_option maxHeartbeats 4000000 in
set_option maxRecDepth 100000 in
theorem m_L_isCarSo {E : Ev} {l : Launch} (hl : l.stackTraces = false) {mc ms : Nat} {h : Hp} {p0 : Nat} {p1 : Int32} {post : Int32 → Prop} {px : String → Prop} (hw : wp_L_isCarSo mc ms h p0 p1 post px) : MT E l yL_isCarSo cL_isCarSo 9 (some .boolean) 9 168 mc ms h [.ref p0, .int p1] (puI h post) (pxP h px) := by
  refine MT.of (by decide) hl (Nat.le_of_ble_eq_true rfl) (fun p e s m args below meth c C => ?_)
  unfold wp_L_isCarSo at hw
  have C : CX E p l s m args meth c cL_isCarSo 9 "TaktLineLaw" "isCarSo" (some .boolean) [] := C
  show WS E p l e (rmOf 9 mc ms 168) s m args below meth c 9 (vx_MQ below (qcP E (puI h post)) (xcP E (pxP h px)) args s mc ms (bsA E)) h 0 0 0 [(0, .ref p0), (1, .int p1)] []
  refine r_aload_n C dL_isCarSo_0 rfl rfl ?_
  refine r_iload_n C dL_isCarSo_1 rfl rfl ?_
  obtain ⟨b2, d2, hw⟩ := hw
  obtain ⟨g3, hw⟩ := hw
  refine r_callV (As := [.int p1]) (st := []) C (m_X5_needs hl hw) v_X5_needs w_757 K7 g3 (by decide) ob7 rfl ⟨leb rfl, leb rfl⟩ ⟨b2, d2⟩ rfl (leb rfl) dL_isCarSo_2 (fun X h9 hx => by obtain ⟨hx, rfl⟩ := hx; exact r_out C ⟨hx, rfl⟩ b2 d2) (kpI (K := fun hK sK => WS E p l e (rmOf 9 mc ms 168) s m args below meth c 9 (vx_MQ below (qcP E (puI h post)) (xcP E (pxP h px)) args s mc ms (bsA E)) hK (1) (6) (2 + 3) [(0, .ref p0), (1, .int p1)] sK) (fun x1 hv => ?_))
  replace hw := hv
  clear hv
  refine r_istore_n C dL_isCarSo_5 rfl (by decide) [(0, .ref p0), (1, .int p1), (2, .int x1)] ⟨rfl, rfl, rfl, trivial⟩ ?_
  refine r_aload_n C dL_isCarSo_6 rfl rfl ?_
  refine r_iload_n C dL_isCarSo_7 rfl rfl ?_
  obtain ⟨b5, d5, hw⟩ := hw
  refine r_callV (As := [.int p1]) (st := []) C (m_X5_lacks hl hw) v_X5_lacks w_728 K7 g3 (by decide) ob7 rfl ⟨leb rfl, leb rfl⟩ ⟨b5, d5⟩ rfl (leb rfl) dL_isCarSo_8 (fun X h9 hx => by obtain ⟨hx, rfl⟩ := hx; exact r_out C ⟨hx, rfl⟩ b5 d5) (kpI (K := fun hK sK => WS E p l e (rmOf 9 mc ms 168) s m args below meth c 9 (vx_MQ below (qcP E (puI h post)) (xcP E (pxP h px)) args s mc ms (bsA E)) hK (2) (12) (8 + 3) [(0, .ref p0), (1, .int p1), (2, .int x1)] sK) (fun x4 hv => ?_))
  replace hw := hv
  clear hv
  refine r_istore_n C dL_isCarSo_11 rfl (by decide) [(0, .ref p0), (1, .int p1), (2, .int x1), (3, .int x4)] ⟨rfl, rfl, rfl, rfl, trivial⟩ ?_
  refine r_aload_n C dL_isCarSo_12 rfl rfl ?_
  refine r_iload_n C dL_isCarSo_13 rfl rfl ?_
  obtain ⟨b7, d7, hw⟩ := hw
  refine r_callV (As := [.int p1]) (st := []) C (m_X5_whereIs hl hw) v_X5_whereIs w_522 K7 g3 (by decide) ob7 rfl ⟨leb rfl, leb rfl⟩ ⟨b7, d7⟩ rfl (leb rfl) dL_isCarSo_14 (fun X h9 hx => by obtain ⟨hx, rfl⟩ := hx; exact r_out C ⟨hx, rfl⟩ b7 d7) (kpI (K := fun hK sK => WS E p l e (rmOf 9 mc ms 168) s m args below meth c 9 (vx_MQ below (qcP E (puI h post)) (xcP E (pxP h px)) args s mc ms (bsA E)) hK (3) (18) (14 + 3) [(0, .ref p0), (1, .int p1), (2, .int x1), (3, .int x4)] sK) (fun x6 hv => ?_))
  replace hw := hv
  clear hv
  refine r_istore C dL_isCarSo_17 (by decide) [(0, .ref p0), (1, .int p1), (2, .int x1), (3, .int x4), (4, .int x6)] ⟨rfl, rfl, rfl, rfl, rfl, trivial⟩ ?_
  refine r_aload_n C dL_isCarSo_19 rfl rfl ?_
  refine r_iload_n C dL_isCarSo_20 rfl rfl ?_
  obtain ⟨b9, d9, hw⟩ := hw
  refine r_callV (As := [.int p1]) (st := []) C (m_X5_stationOf hl hw) v_X5_stationOf w_724 K7 g3 (by decide) ob7 rfl ⟨leb rfl, leb rfl⟩ ⟨b9, d9⟩ rfl (leb rfl) dL_isCarSo_21 (fun X h9 hx => by obtain ⟨hx, rfl⟩ := hx; exact r_out C ⟨hx, rfl⟩ b9 d9) (kpI (K := fun hK sK => WS E p l e (rmOf 9 mc ms 168) s m args below meth c 9 (vx_MQ below (qcP E (puI h post)) (xcP E (pxP h px)) args s mc ms (bsA E)) hK (4) (24) (21 + 3) [(0, .ref p0), (1, .int p1), (2, .int x1), (3, .int x4), (4, .int x6)] sK) (fun x8 hv => ?_))
  replace hw := hv
  clear hv
  refine r_istore C dL_isCarSo_24 (by decide) [(0, .ref p0), (1, .int p1), (2, .int x1), (3, .int x4), (4, .int x6), (5, .int x8)] ⟨rfl, rfl, rfl, rfl, rfl, rfl, trivial⟩ ?_
  refine r_iconst (v := (0 : Int32)) C dL_isCarSo_26 (by decide) ?_
  refine r_istore C dL_isCarSo_27 (by decide) [(0, .ref p0), (1, .int p1), (2, .int x1), (3, .int x4), (4, .int x6), (5, .int x8), (6, .int (0 : Int32))] ⟨rfl, rfl, rfl, rfl, rfl, rfl, rfl, trivial⟩ ?_
  replace hw := hw (fun (v29_6 : Int32) (c29 : Nat) (s29 : Nat) => c29 ≤ mc → s29 ≤ ms → WS E p l e (rmOf 9 mc ms 168) s m args below meth c 9 (vx_MQ below (qcP E (puI h post)) (xcP E (pxP h px)) args s mc ms (bsA E)) h c29 s29 29 [(0, .ref p0), (1, .int p1), (2, .int x1), (3, .int x4), (4, .int x6), (5, .int x8), (6, .int v29_6)] []) (by
    intro v29_6 c29 s29 hv bc29 bs29
    replace hw := hv
    clear hv
    refine r_iload C dL_isCarSo_29 rfl ?_
    refine r_bipush (v := (10 : Int32)) C dL_isCarSo_31 (by decide) ?_
    refine r_icmp_ge C 110 dL_isCarSo_33 (by decide) (fun z10 => ?_) (fun z10 => ?_)
    · replace hw := hw.1 z10
      refine r_iload C dL_isCarSo_110 rfl ?_
      refine r_iconst (v := (1 : Int32)) C dL_isCarSo_112 (by decide) ?_
      replace hw := hw (fun (t193_0 : Int32) (c193 : Nat) (s193 : Nat) => c193 ≤ mc → s193 ≤ ms → WS E p l e (rmOf 9 mc ms 168) s m args below meth c 9 (vx_MQ below (qcP E (puI h post)) (xcP E (pxP h px)) args s mc ms (bsA E)) h c193 s193 193 [(0, .ref p0), (1, .int p1), (2, .int x1), (3, .int x4), (4, .int x6)] [.int t193_0]) (by
        intro t193_0 c193 s193 hv bc193 bs193
        replace hw := hv
        clear hv
        refine r_istore C dL_isCarSo_193 (by decide) [(0, .ref p0), (1, .int p1), (2, .int x1), (3, .int x4), (4, .int x6), (6, .int t193_0)] ⟨rfl, rfl, rfl, rfl, rfl, rfl, trivial⟩ ?_
        refine r_iload C dL_isCarSo_195 rfl ?_
        replace hw := hw (fun (t259_0 : Int32) (c259 : Nat) (s259 : Nat) => c259 ≤ mc → s259 ≤ ms → WS E p l e (rmOf 9 mc ms 168) s m args below meth c 9 (vx_MQ below (qcP E (puI h post)) (xcP E (pxP h px)) args s mc ms (bsA E)) h c259 s259 259 [] [.int t259_0]) (by
          intro t259_0 c259 s259 hv bc259 bs259
          replace hw := hv
          clear hv
          obtain ⟨y11, hw⟩ := hw
          exact r_zret C y11 dL_isCarSo_259 bc259 bs259 ⟨_, rfl, hw, rfl⟩
          )
        replace hw := hw (fun (c258 : Nat) (s258 : Nat) => c258 ≤ mc → s258 ≤ ms → WS E p l e (rmOf 9 mc ms 168) s m args below meth c 9 (vx_MQ below (qcP E (puI h post)) (xcP E (pxP h px)) args s mc ms (bsA E)) h c258 s258 258 [] []) (by
          intro c258 s258 hv bc258 bs258
          replace hw := hv
          clear hv
          refine r_iconst (v := (0 : Int32)) C dL_isCarSo_258 (by decide) ?_
          exact (r_subk (hw bc258 bs258) trivial)
          )
        refine r_if_eq C 258 dL_isCarSo_197 (by decide) (fun z12 => ?_) (fun z12 => ?_)
        · replace hw := hw.1 z12
          exact (r_subk (hw bc193 bs193) trivial)
        · replace hw := hw.2 z12
          refine r_iload_n C dL_isCarSo_200 rfl rfl ?_
          refine r_iload_n C dL_isCarSo_201 rfl rfl ?_
          refine r_iconst (v := (-1 : Int32)) C dL_isCarSo_202 (by decide) ?_
          refine r_ixor C dL_isCarSo_203 ?_
          refine r_iand C dL_isCarSo_204 ?_
          refine r_if_ne C 258 dL_isCarSo_205 (by decide) (fun z13 => ?_) (fun z13 => ?_)
          · replace hw := hw.2 z13
            exact (r_subk (hw bc193 bs193) trivial)
          · replace hw := hw.1 z13
            refine r_iload C dL_isCarSo_208 rfl ?_
            replace hw := hw (fun (c226 : Nat) (s226 : Nat) => c226 ≤ mc → s226 ≤ ms → WS E p l e (rmOf 9 mc ms 168) s m args below meth c 9 (vx_MQ below (qcP E (puI h post)) (xcP E (pxP h px)) args s mc ms (bsA E)) h c226 s226 226 [(0, .ref p0), (1, .int p1)] []) (by
              intro c226 s226 hv bc226 bs226
              replace hw := hv
              clear hv
              refine r_aload_n C dL_isCarSo_226 rfl rfl ?_
              refine r_iload_n C dL_isCarSo_227 rfl rfl ?_
              obtain ⟨b15, d15, hw⟩ := hw
              refine r_callV (As := [.int p1]) (st := []) C (m_X5_isFit hl hw) v_X5_isFit w_740 K7 g3 (by decide) ob7 rfl ⟨leb rfl, leb rfl⟩ ⟨b15, d15⟩ rfl (leb rfl) dL_isCarSo_228 (fun X h9 hx => by obtain ⟨hx, rfl⟩ := hx; exact r_out C ⟨hx, rfl⟩ b15 d15) (kpI (K := fun hK sK => WS E p l e (rmOf 9 mc ms 168) s m args below meth c 9 (vx_MQ below (qcP E (puI h post)) (xcP E (pxP h px)) args s mc ms (bsA E)) hK (c226 + 1) (s226 + 6) (228 + 3) [(0, .ref p0), (1, .int p1)] sK) (fun x14 hv => ?_))
              replace hw := hv
              clear hv
              replace hw := hw (fun (c242 : Nat) (s242 : Nat) => c242 ≤ mc → s242 ≤ ms → WS E p l e (rmOf 9 mc ms 168) s m args below meth c 9 (vx_MQ below (qcP E (puI h post)) (xcP E (pxP h px)) args s mc ms (bsA E)) h c242 s242 242 [(0, .ref p0), (1, .int p1)] []) (by
                intro c242 s242 hv bc242 bs242
                replace hw := hv
                clear hv
                refine r_aload_n C dL_isCarSo_242 rfl rfl ?_
                refine r_iload_n C dL_isCarSo_243 rfl rfl ?_
                obtain ⟨b17, d17, hw⟩ := hw
                refine r_callV (As := [.int p1]) (st := []) C (m_X5_imageOf hl hw) v_X5_imageOf w_732 K7 g3 (by decide) ob7 rfl ⟨leb rfl, leb rfl⟩ ⟨b17, d17⟩ rfl (leb rfl) dL_isCarSo_244 (fun X h9 hx => by obtain ⟨hx, rfl⟩ := hx; exact r_out C ⟨hx, rfl⟩ b17 d17) (kpI (K := fun hK sK => WS E p l e (rmOf 9 mc ms 168) s m args below meth c 9 (vx_MQ below (qcP E (puI h post)) (xcP E (pxP h px)) args s mc ms (bsA E)) hK (c242 + 1) (s242 + 6) (244 + 3) [(0, .ref p0), (1, .int p1)] sK) (fun x16 hv => ?_))
                replace hw := hv
                clear hv
                refine r_aload_n C dL_isCarSo_247 rfl rfl ?_
                refine r_callV (As := []) (st := [.int x16]) C (m_X5_images hl hw) v_X5_images w_511 K7 g3 (by decide) ob7 rfl ⟨leb rfl, leb rfl⟩ ⟨b17, d17⟩ rfl (leb rfl) dL_isCarSo_248 (fun _ _ z => z.elim) (kpI (K := fun hK sK => WS E p l e (rmOf 9 mc ms 168) s m args below meth c 9 (vx_MQ below (qcP E (puI h post)) (xcP E (pxP h px)) args s mc ms (bsA E)) hK (c242 + 1 + 0) (s242 + 6 + 0) (248 + 3) [(0, .ref p0), (1, .int p1)] sK) (fun x18 hv => ?_))
                replace hw := hv
                clear hv
                refine r_icmp_ge C 258 dL_isCarSo_251 (by decide) (fun z19 => ?_) (fun z19 => ?_)
                · replace hw := hw.1 z19
                  exact (r_subk (hw b17 d17) trivial)
                · replace hw := hw.2 z19
                  refine r_iconst (v := (1 : Int32)) C dL_isCarSo_254 (by decide) ?_
                  refine r_goto C 259 dL_isCarSo_255 (by decide) ?_
                  exact (r_subk (hw b17 d17) trivial)
                )
              refine r_if_eq C 242 dL_isCarSo_231 (by decide) (fun z20 => ?_) (fun z20 => ?_)
              · replace hw := hw.1 z20
                exact (r_subk (hw b15 d15) ⟨rfl, rfl, trivial⟩)
              · replace hw := hw.2 z20
                refine r_aload_n C dL_isCarSo_234 rfl rfl ?_
                refine r_iload_n C dL_isCarSo_235 rfl rfl ?_
                obtain ⟨b22, d22, hw⟩ := hw
                refine r_callV (As := [.int p1]) (st := []) C (m_X5_imageOf hl hw) v_X5_imageOf w_732 K7 g3 (by decide) ob7 rfl ⟨leb rfl, leb rfl⟩ ⟨b22, d22⟩ rfl (leb rfl) dL_isCarSo_236 (fun X h9 hx => by obtain ⟨hx, rfl⟩ := hx; exact r_out C ⟨hx, rfl⟩ b22 d22) (kpI (K := fun hK sK => WS E p l e (rmOf 9 mc ms 168) s m args below meth c 9 (vx_MQ below (qcP E (puI h post)) (xcP E (pxP h px)) args s mc ms (bsA E)) hK (c226 + 1 + 1) (s226 + 6 + 6) (236 + 3) [(0, .ref p0), (1, .int p1)] sK) (fun x21 hv => ?_))
                replace hw := hv
                clear hv
                refine r_if_lt C 258 dL_isCarSo_239 (by decide) (fun z23 => ?_) (fun z23 => ?_)
                · replace hw := hw.1 z23
                  exact (r_subk (hw b22 d22) trivial)
                · replace hw := hw.2 z23
                  exact (r_subk (hw b22 d22) ⟨rfl, rfl, trivial⟩)
              )
            refine r_if_ne C 226 dL_isCarSo_210 (by decide) (fun z24 => ?_) (fun z24 => ?_)
            · replace hw := hw.2 z24
              exact (r_subk (hw bc193 bs193) ⟨rfl, rfl, trivial⟩)
            · replace hw := hw.1 z24
              refine r_aload_n C dL_isCarSo_213 rfl rfl ?_
              refine r_iload_n C dL_isCarSo_214 rfl rfl ?_
              obtain ⟨b26, d26, hw⟩ := hw
              refine r_callV (As := [.int p1]) (st := []) C (m_X5_isTested hl hw) v_X5_isTested w_736 K7 g3 (by decide) ob7 rfl ⟨leb rfl, leb rfl⟩ ⟨b26, d26⟩ rfl (leb rfl) dL_isCarSo_215 (fun X h9 hx => by obtain ⟨hx, rfl⟩ := hx; exact r_out C ⟨hx, rfl⟩ b26 d26) (kpI (K := fun hK sK => WS E p l e (rmOf 9 mc ms 168) s m args below meth c 9 (vx_MQ below (qcP E (puI h post)) (xcP E (pxP h px)) args s mc ms (bsA E)) hK (c193 + 1) (s193 + 6) (215 + 3) [(0, .ref p0), (1, .int p1), (2, .int x1), (3, .int x4), (4, .int x6), (6, .int t193_0)] sK) (fun x25 hv => ?_))
              replace hw := hv
              clear hv
              refine r_if_ne C 258 dL_isCarSo_218 (by decide) (fun z27 => ?_) (fun z27 => ?_)
              · replace hw := hw.2 z27
                exact (r_subk (hw b26 d26) trivial)
              · replace hw := hw.1 z27
                refine r_iload_n C dL_isCarSo_221 rfl rfl ?_
                refine r_iload_n C dL_isCarSo_222 rfl rfl ?_
                refine r_icmp_ne C 258 dL_isCarSo_223 (by decide) (fun z28 => ?_) (fun z28 => ?_)
                · replace hw := hw.2 z28
                  exact (r_subk (hw b26 d26) trivial)
                · replace hw := hw.1 z28
                  exact (r_subk (hw b26 d26) ⟨rfl, rfl, trivial⟩)
        )
      refine r_icmp_ne C 146 dL_isCarSo_113 (by decide) (fun z29 => ?_) (fun z29 => ?_)
      · replace hw := hw.2 z29
        refine r_iload C dL_isCarSo_146 rfl ?_
        refine r_iconst (v := (2 : Int32)) C dL_isCarSo_148 (by decide) ?_
        refine r_icmp_ne C 182 dL_isCarSo_149 (by decide) (fun z30 => ?_) (fun z30 => ?_)
        · replace hw := hw.2 z30
          refine r_iload C dL_isCarSo_182 rfl ?_
          refine r_iconst (v := (-1 : Int32)) C dL_isCarSo_184 (by decide) ?_
          refine r_icmp_ne C 192 dL_isCarSo_185 (by decide) (fun z31 => ?_) (fun z31 => ?_)
          · replace hw := hw.2 z31
            refine r_iconst (v := (0 : Int32)) C dL_isCarSo_192 (by decide) ?_
            exact (r_subk (hw bc29 bs29) ⟨rfl, rfl, rfl, rfl, rfl, trivial⟩)
          · replace hw := hw.1 z31
            refine r_iconst (v := (1 : Int32)) C dL_isCarSo_188 (by decide) ?_
            refine r_goto C 193 dL_isCarSo_189 (by decide) ?_
            exact (r_subk (hw bc29 bs29) ⟨rfl, rfl, rfl, rfl, rfl, trivial⟩)
        · replace hw := hw.1 z30
          refine r_iload C dL_isCarSo_152 rfl ?_
          replace hw := hw (fun (c178 : Nat) (s178 : Nat) => c178 ≤ mc → s178 ≤ ms → WS E p l e (rmOf 9 mc ms 168) s m args below meth c 9 (vx_MQ below (qcP E (puI h post)) (xcP E (pxP h px)) args s mc ms (bsA E)) h c178 s178 178 [(0, .ref p0), (1, .int p1), (2, .int x1), (3, .int x4), (4, .int x6)] []) (by
            intro c178 s178 hv bc178 bs178
            replace hw := hv
            clear hv
            refine r_iconst (v := (0 : Int32)) C dL_isCarSo_178 (by decide) ?_
            refine r_goto C 193 dL_isCarSo_179 (by decide) ?_
            exact (r_subk (hw bc178 bs178) ⟨rfl, rfl, rfl, rfl, rfl, trivial⟩)
            )
          refine r_if_lt C 178 dL_isCarSo_154 (by decide) (fun z32 => ?_) (fun z32 => ?_)
          · replace hw := hw.1 z32
            exact (r_subk (hw bc29 bs29) ⟨rfl, rfl, rfl, rfl, rfl, trivial⟩)
          · replace hw := hw.2 z32
            refine r_iload C dL_isCarSo_157 rfl ?_
            refine r_bipush (v := (6 : Int32)) C dL_isCarSo_159 (by decide) ?_
            refine r_icmp_ge C 178 dL_isCarSo_161 (by decide) (fun z33 => ?_) (fun z33 => ?_)
            · replace hw := hw.1 z33
              exact (r_subk (hw bc29 bs29) ⟨rfl, rfl, rfl, rfl, rfl, trivial⟩)
            · replace hw := hw.2 z33
              refine r_aload_n C dL_isCarSo_164 rfl rfl ?_
              refine r_iload C dL_isCarSo_165 rfl ?_
              obtain ⟨b35, d35, hw⟩ := hw
              refine r_callV (As := [.int x8]) (st := []) C (m_X5_carAt hl hw) v_X5_carAt w_533 K7 g3 (by decide) ob7 rfl ⟨leb rfl, leb rfl⟩ ⟨b35, d35⟩ rfl (leb rfl) dL_isCarSo_167 (fun X h9 hx => by obtain ⟨hx, rfl⟩ := hx; exact r_out C ⟨hx, rfl⟩ b35 d35) (kpI (K := fun hK sK => WS E p l e (rmOf 9 mc ms 168) s m args below meth c 9 (vx_MQ below (qcP E (puI h post)) (xcP E (pxP h px)) args s mc ms (bsA E)) hK (c29 + 1) (s29 + 6) (167 + 3) [(0, .ref p0), (1, .int p1), (2, .int x1), (3, .int x4), (4, .int x6), (5, .int x8), (6, .int v29_6)] sK) (fun x34 hv => ?_))
              replace hw := hv
              clear hv
              refine r_iload_n C dL_isCarSo_170 rfl rfl ?_
              refine r_icmp_eq C 178 dL_isCarSo_171 (by decide) (fun z36 => ?_) (fun z36 => ?_)
              · replace hw := hw.1 z36
                exact (r_subk (hw b35 d35) ⟨rfl, rfl, rfl, rfl, rfl, trivial⟩)
              · replace hw := hw.2 z36
                refine r_iconst (v := (1 : Int32)) C dL_isCarSo_174 (by decide) ?_
                refine r_goto C 193 dL_isCarSo_175 (by decide) ?_
                exact (r_subk (hw b35 d35) ⟨rfl, rfl, rfl, rfl, rfl, trivial⟩)
      · replace hw := hw.1 z29
        refine r_iload C dL_isCarSo_116 rfl ?_
        replace hw := hw (fun (c142 : Nat) (s142 : Nat) => c142 ≤ mc → s142 ≤ ms → WS E p l e (rmOf 9 mc ms 168) s m args below meth c 9 (vx_MQ below (qcP E (puI h post)) (xcP E (pxP h px)) args s mc ms (bsA E)) h c142 s142 142 [(0, .ref p0), (1, .int p1), (2, .int x1), (3, .int x4), (4, .int x6)] []) (by
          intro c142 s142 hv bc142 bs142
          replace hw := hv
          clear hv
          refine r_iconst (v := (0 : Int32)) C dL_isCarSo_142 (by decide) ?_
          refine r_goto C 193 dL_isCarSo_143 (by decide) ?_
          exact (r_subk (hw bc142 bs142) ⟨rfl, rfl, rfl, rfl, rfl, trivial⟩)
          )
        refine r_if_lt C 142 dL_isCarSo_118 (by decide) (fun z37 => ?_) (fun z37 => ?_)
        · replace hw := hw.1 z37
          exact (r_subk (hw bc29 bs29) ⟨rfl, rfl, rfl, rfl, rfl, trivial⟩)
        · replace hw := hw.2 z37
          refine r_iload C dL_isCarSo_121 rfl ?_
          refine r_bipush (v := (8 : Int32)) C dL_isCarSo_123 (by decide) ?_
          refine r_icmp_ge C 142 dL_isCarSo_125 (by decide) (fun z38 => ?_) (fun z38 => ?_)
          · replace hw := hw.1 z38
            exact (r_subk (hw bc29 bs29) ⟨rfl, rfl, rfl, rfl, rfl, trivial⟩)
          · replace hw := hw.2 z38
            refine r_aload_n C dL_isCarSo_128 rfl rfl ?_
            refine r_iload C dL_isCarSo_129 rfl ?_
            obtain ⟨b40, d40, hw⟩ := hw
            refine r_callV (As := [.int x8]) (st := []) C (m_X5_carAt hl hw) v_X5_carAt w_533 K7 g3 (by decide) ob7 rfl ⟨leb rfl, leb rfl⟩ ⟨b40, d40⟩ rfl (leb rfl) dL_isCarSo_131 (fun X h9 hx => by obtain ⟨hx, rfl⟩ := hx; exact r_out C ⟨hx, rfl⟩ b40 d40) (kpI (K := fun hK sK => WS E p l e (rmOf 9 mc ms 168) s m args below meth c 9 (vx_MQ below (qcP E (puI h post)) (xcP E (pxP h px)) args s mc ms (bsA E)) hK (c29 + 1) (s29 + 6) (131 + 3) [(0, .ref p0), (1, .int p1), (2, .int x1), (3, .int x4), (4, .int x6), (5, .int x8), (6, .int v29_6)] sK) (fun x39 hv => ?_))
            replace hw := hv
            clear hv
            refine r_iload_n C dL_isCarSo_134 rfl rfl ?_
            refine r_icmp_ne C 142 dL_isCarSo_135 (by decide) (fun z41 => ?_) (fun z41 => ?_)
            · replace hw := hw.2 z41
              exact (r_subk (hw b40 d40) ⟨rfl, rfl, rfl, rfl, rfl, trivial⟩)
            · replace hw := hw.1 z41
              refine r_iconst (v := (1 : Int32)) C dL_isCarSo_138 (by decide) ?_
              refine r_goto C 193 dL_isCarSo_139 (by decide) ?_
              exact (r_subk (hw b40 d40) ⟨rfl, rfl, rfl, rfl, rfl, trivial⟩)
    · replace hw := hw.2 z10
      refine r_aload_n C dL_isCarSo_36 rfl rfl ?_
      refine r_iload_n C dL_isCarSo_37 rfl rfl ?_
      refine r_iload C dL_isCarSo_38 rfl ?_
      obtain ⟨b43, d43, hw⟩ := hw
      refine r_callV (As := [.int p1, .int v29_6]) (st := []) C (m_X5_lotIn hl hw) v_X5_lotIn w_765 K7 g3 (by decide) ob7 rfl ⟨leb rfl, leb rfl⟩ ⟨b43, d43⟩ rfl (leb rfl) dL_isCarSo_40 (fun X h9 hx => by obtain ⟨hx, rfl⟩ := hx; exact r_out C ⟨hx, rfl⟩ b43 d43) (kpI (K := fun hK sK => WS E p l e (rmOf 9 mc ms 168) s m args below meth c 9 (vx_MQ below (qcP E (puI h post)) (xcP E (pxP h px)) args s mc ms (bsA E)) hK (c29 + 2) (s29 + 12) (40 + 3) [(0, .ref p0), (1, .int p1), (2, .int x1), (3, .int x4), (4, .int x6), (5, .int x8), (6, .int v29_6)] sK) (fun x42 hv => ?_))
      replace hw := hv
      clear hv
      refine r_istore C dL_isCarSo_43 (by decide) [(0, .ref p0), (1, .int p1), (2, .int x1), (3, .int x4), (4, .int x6), (5, .int x8), (6, .int v29_6), (7, .int x42)] ⟨rfl, rfl, rfl, rfl, rfl, rfl, rfl, rfl, trivial⟩ ?_
      refine r_iload C dL_isCarSo_45 rfl ?_
      refine r_aload_n C dL_isCarSo_47 rfl rfl ?_
      refine r_iload_n C dL_isCarSo_48 rfl rfl ?_
      refine r_iload C dL_isCarSo_49 rfl ?_
      obtain ⟨b45, d45, hw⟩ := hw
      refine r_callV (As := [.int p1, .int v29_6]) (st := [.int x42]) C (m_X5_lotByPicks hl hw) v_X5_lotByPicks w_769 K7 g3 (by decide) ob7 rfl ⟨leb rfl, leb rfl⟩ ⟨b45, d45⟩ rfl (leb rfl) dL_isCarSo_51 (fun X h9 hx => by obtain ⟨hx, rfl⟩ := hx; exact r_out C ⟨hx, rfl⟩ b45 d45) (kpI (K := fun hK sK => WS E p l e (rmOf 9 mc ms 168) s m args below meth c 9 (vx_MQ below (qcP E (puI h post)) (xcP E (pxP h px)) args s mc ms (bsA E)) hK (c29 + 2 + 2) (s29 + 12 + 12) (51 + 3) [(0, .ref p0), (1, .int p1), (2, .int x1), (3, .int x4), (4, .int x6), (5, .int x8), (6, .int v29_6), (7, .int x42)] sK) (fun x44 hv => ?_))
      replace hw := hv
      clear hv
      replace hw := hw (fun (t95_0 : Int32) => WS E p l e (rmOf 9 mc ms 168) s m args below meth c 9 (vx_MQ below (qcP E (puI h post)) (xcP E (pxP h px)) args s mc ms (bsA E)) h (c29 + 2 + 2) (s29 + 12 + 12) 95 [(0, .ref p0), (1, .int p1), (2, .int x1), (3, .int x4), (4, .int x6), (5, .int x8), (6, .int v29_6)] [.int t95_0]) (by
        intro t95_0 hv
        replace hw := hv
        clear hv
        refine r_istore C dL_isCarSo_95 (by decide) [(0, .ref p0), (1, .int p1), (2, .int x1), (3, .int x4), (4, .int x6), (5, .int x8), (6, .int v29_6), (8, .int t95_0)] ⟨rfl, rfl, rfl, rfl, rfl, rfl, rfl, rfl, trivial⟩ ?_
        refine r_iload C dL_isCarSo_97 rfl ?_
        refine r_if_ne C 104 dL_isCarSo_99 (by decide) (fun z46 => ?_) (fun z46 => ?_)
        · replace hw := hw.2 z46
          refine r_iinc C (v29_6 + (1 : Int32)) dL_isCarSo_104 rfl rfl (by decide) [(0, .ref p0), (1, .int p1), (2, .int x1), (3, .int x4), (4, .int x6), (5, .int x8), (6, .int (v29_6 + (1 : Int32)))] ⟨rfl, rfl, rfl, rfl, rfl, rfl, rfl, trivial⟩ ?_
          refine r_goto C 29 dL_isCarSo_107 (by decide) ?_
          exact (r_subk (hw b45 d45) ⟨rfl, rfl, rfl, rfl, rfl, rfl, rfl, trivial⟩)
        · replace hw := hw.1 z46
          refine r_iconst (v := (0 : Int32)) C dL_isCarSo_102 (by decide) ?_
          exact r_zret C (Or.inl rfl) dL_isCarSo_103 b45 d45 ⟨_, rfl, hw, rfl⟩
        )
      replace hw := hw (WS E p l e (rmOf 9 mc ms 168) s m args below meth c 9 (vx_MQ below (qcP E (puI h post)) (xcP E (pxP h px)) args s mc ms (bsA E)) h (c29 + 2 + 2) (s29 + 12 + 12) 94 [(0, .ref p0), (1, .int p1), (2, .int x1), (3, .int x4), (4, .int x6), (5, .int x8), (6, .int v29_6)] []) (by
        intro hv
        replace hw := hv
        clear hv
        refine r_iconst (v := (0 : Int32)) C dL_isCarSo_94 (by decide) ?_
        exact (r_subk hw ⟨rfl, rfl, rfl, rfl, rfl, rfl, rfl, trivial⟩)
        )
      refine r_icmp_ne C 94 dL_isCarSo_54 (by decide) (fun z47 => ?_) (fun z47 => ?_)
      · replace hw := hw.2 z47
        exact (r_subk hw ⟨rfl, rfl, rfl, rfl, rfl, rfl, rfl, trivial⟩)
      · replace hw := hw.1 z47
        refine r_iload C dL_isCarSo_57 rfl ?_
        refine r_iconst (v := (-1 : Int32)) C dL_isCarSo_59 (by decide) ?_
        refine r_icmp_lt C 94 dL_isCarSo_60 (by decide) (fun z48 => ?_) (fun z48 => ?_)
        · replace hw := hw.1 z48
          exact (r_subk hw ⟨rfl, rfl, rfl, rfl, rfl, rfl, rfl, trivial⟩)
        · replace hw := hw.2 z48
          refine r_iload C dL_isCarSo_63 rfl ?_
          refine r_bipush (v := (40 : Int32)) C dL_isCarSo_65 (by decide) ?_
          refine r_icmp_ge C 94 dL_isCarSo_67 (by decide) (fun z49 => ?_) (fun z49 => ?_)
          · replace hw := hw.1 z49
            exact (r_subk hw ⟨rfl, rfl, rfl, rfl, rfl, rfl, rfl, trivial⟩)
          · replace hw := hw.2 z49
            refine r_iload C dL_isCarSo_70 rfl ?_
            replace hw := hw (WS E p l e (rmOf 9 mc ms 168) s m args below meth c 9 (vx_MQ below (qcP E (puI h post)) (xcP E (pxP h px)) args s mc ms (bsA E)) h (c29 + 2 + 2) (s29 + 12 + 12) 90 [(0, .ref p0), (1, .int p1), (2, .int x1), (3, .int x4), (4, .int x6), (5, .int x8), (6, .int v29_6)] []) (by
              intro hv
              replace hw := hv
              clear hv
              refine r_iconst (v := (1 : Int32)) C dL_isCarSo_90 (by decide) ?_
              refine r_goto C 95 dL_isCarSo_91 (by decide) ?_
              exact (r_subk hw ⟨rfl, rfl, rfl, rfl, rfl, rfl, rfl, trivial⟩)
              )
            refine r_if_ge C 90 dL_isCarSo_72 (by decide) (fun z50 => ?_) (fun z50 => ?_)
            · replace hw := hw.1 z50
              exact (r_subk hw ⟨rfl, rfl, rfl, rfl, rfl, rfl, rfl, trivial⟩)
            · replace hw := hw.2 z50
              refine r_iload_n C dL_isCarSo_75 rfl rfl ?_
              refine r_iload C dL_isCarSo_76 rfl ?_
              refine r_ishr C dL_isCarSo_78 ?_
              refine r_iconst (v := (1 : Int32)) C dL_isCarSo_79 (by decide) ?_
              refine r_iand C dL_isCarSo_80 ?_
              refine r_iload_n C dL_isCarSo_81 rfl rfl ?_
              refine r_iload C dL_isCarSo_82 rfl ?_
              refine r_ishr C dL_isCarSo_84 ?_
              refine r_iconst (v := (1 : Int32)) C dL_isCarSo_85 (by decide) ?_
              refine r_iand C dL_isCarSo_86 ?_
              refine r_icmp_ne C 94 dL_isCarSo_87 (by decide) (fun z51 => ?_) (fun z51 => ?_)
              · replace hw := hw.2 z51
                exact (r_subk hw ⟨rfl, rfl, rfl, rfl, rfl, rfl, rfl, trivial⟩)
              · replace hw := hw.1 z51
                exact (r_subk hw ⟨rfl, rfl, rfl, rfl, rfl, rfl, rfl, trivial⟩)
    )
  exact (r_subk (hw b9 d9) ⟨rfl, rfl, rfl, rfl, rfl, rfl, rfl, trivial⟩)
theorem v_L_isCarSo : MS yL_isCarSo cL_isCarSo 9 (some .boolean) 2 := ⟨w_756, w_755, w_36, ⟨by decide +kernel, by decide +kernel, by decide +kernel⟩⟩

def wp_L_isLineSo (mc ms : Nat) (h : Hp) (p0 : Nat) (post : Int32 → Prop) (px : String → Prop) : Prop :=
(∀ J6 : Int32 → Int32 → Int32 → Nat → Nat → Prop, (∀ (v6_1 : Int32) (v6_2 : Int32) (v6_3 : Int32) (c6 : Nat) (s6 : Nat), (∀ J73 : Nat → Nat → Prop, (∀ (c73 : Nat) (s73 : Nat), (∀ J75 : Int32 → Nat → Nat → Prop, (∀ (v75_3 : Int32) (c75 : Nat) (s75 : Nat), (((8 : Int32) ≤ v75_3 →
 (hT h p0 = 7 ∧
 wp_X5_atLarge h p0 (fun x2 =>
 (∀ J156 : Int32 → Prop, (∀ (t156_0 : Int32), (b01 t156_0 ∧
 post t156_0) → J156 t156_0) →
 (∀ J155 : Prop, ((J156 (0 : Int32)) → J155) →
 ((x2 < 0 →
 J155) ∧ (¬ (x2 < 0) →
 wp_X5_atLarge h p0 (fun x6 =>
 ((v6_2 < x6 →
 J155) ∧ (¬ (v6_2 < x6) →
 wp_X5_images h p0 (fun x8 =>
 (((40 : Int32) < x8 →
 J155) ∧ (¬ ((40 : Int32) < x8) →
 J156 (1 : Int32)))))))))))))) ∧ (¬ ((8 : Int32) ≤ v75_3) →
 (c75 + 1 ≤ mc ∧
 (s75 + 6 ≤ ms ∧
 (hT h p0 = 7 ∧
 wp_X5_carAt h p0 v75_3 (fun x10 =>
 (∀ J119 : Nat → Nat → Prop, (∀ (c119 : Nat) (s119 : Nat), (post (0 : Int32)) → J119 c119 s119) →
 ((v6_1 ≤ x10 →
 J119 (c75 + 1) (s75 + 6)) ∧ (¬ (v6_1 ≤ x10) →
 (∀ J121 : Nat → Nat → Prop, (∀ (c121 : Nat) (s121 : Nat), (J75 (v75_3 + (1 : Int32)) c121 s121) → J121 c121 s121) →
 ((x10 < 0 →
 J121 (c75 + 1) (s75 + 6)) ∧ (¬ (x10 < 0) →
 (c75 + 1 + 1 ≤ mc ∧
 (s75 + 6 + 6 ≤ ms ∧
 wp_X5_whereIs h p0 x10 (fun x15 =>
 ((x15 = (1 : Int32) →
 (c75 + 1 + 1 + 1 ≤ mc ∧
 (s75 + 6 + 6 + 6 ≤ ms ∧
 wp_X5_stationOf h p0 x10 (fun x18 =>
 ((x18 = v75_3 →
 J121 (c75 + 1 + 1 + 1) (s75 + 6 + 6 + 6)) ∧ (¬ (x18 = v75_3) →
 J119 (c75 + 1 + 1 + 1) (s75 + 6 + 6 + 6)))) px))) ∧ (¬ (x15 = (1 : Int32)) →
 J119 (c75 + 1 + 1) (s75 + 6 + 6)))) px))))))))) px))))) → J75 v75_3 c75 s75) →
 J75 (0 : Int32) c73 s73) → J73 c73 s73) →
 (((30 : Int32) ≤ v6_3 →
 J73 c6 s6) ∧ (¬ ((30 : Int32) ≤ v6_3) →
 (c6 + 1 ≤ mc ∧
 (s6 + 6 ≤ ms ∧
 wp_L_whereIs h p0 v6_3 (fun x22 =>
 ((x22 < 0 →
 J73 (c6 + 1) (s6 + 6)) ∧ (¬ (x22 < 0) →
 (∃ k25 n25 : Nat,
 (c6 + 1 + k25 ≤ mc ∧
 (s6 + 6 + n25 ≤ ms ∧
 wp_L_isCarSo k25 n25 h p0 v6_3 (fun x25 =>
 (∀ J48 : Nat → Nat → Prop, (∀ (c48 : Nat) (s48 : Nat), (post (0 : Int32)) → J48 c48 s48) →
 ((x25 = 0 →
 J48 (c6 + 1 + k25) (s6 + 6 + n25)) ∧ (¬ (x25 = 0) →
 (c6 + 1 + k25 + 1 ≤ mc ∧
 (s6 + 6 + n25 + 6 ≤ ms ∧
 (hT h p0 = 7 ∧
 wp_X5_whereIs h p0 v6_3 (fun x28 =>
 (∀ J50 : Nat → Nat → Prop, (∀ (c50 : Nat) (s50 : Nat), (c50 + 1 ≤ mc ∧
 (s50 + 6 ≤ ms ∧
 wp_X5_whereIs h p0 v6_3 (fun x31 =>
 (∀ J65 : Int32 → Prop, (∀ (t65_0 : Int32), (J6 (v6_1 + (1 : Int32)) (v6_2 + t65_0) (v6_3 + (1 : Int32)) (c50 + 1) (s50 + 6)) → J65 t65_0) →
 ((x31 = (3 : Int32) →
 J65 (1 : Int32)) ∧ (¬ (x31 = (3 : Int32)) →
 J65 (0 : Int32))))) px)) → J50 c50 s50) →
 ((x28 = (3 : Int32) →
 (c6 + 1 + k25 + 1 + 1 ≤ mc ∧
 (s6 + 6 + n25 + 6 + 6 ≤ ms ∧
 wp_X5_isTested h p0 v6_3 (fun x35 =>
 ((x35 = 0 →
 J48 (c6 + 1 + k25 + 1 + 1) (s6 + 6 + n25 + 6 + 6)) ∧ (¬ (x35 = 0) →
 J50 (c6 + 1 + k25 + 1 + 1) (s6 + 6 + n25 + 6 + 6)))) px))) ∧ (¬ (x28 = (3 : Int32)) →
 J50 (c6 + 1 + k25 + 1) (s6 + 6 + n25 + 6))))) px))))))) px))))))))))) → J6 v6_1 v6_2 v6_3 c6 s6) →
 J6 (0 : Int32) (0 : Int32) (0 : Int32) 0 0)
set_option maxHeartbeats 4000000 in
set_option maxRecDepth 100000 in
theorem m_L_isLineSo {E : Ev} {l : Launch} (hl : l.stackTraces = false) {mc ms : Nat} {h : Hp} {p0 : Nat} {post : Int32 → Prop} {px : String → Prop} (hw : wp_L_isLineSo mc ms h p0 post px) : MT E l yL_isLineSo cL_isLineSo 5 (some .boolean) 10 196 mc ms h [.ref p0] (puI h post) (pxP h px) := by
  refine MT.of (by decide) hl (Nat.le_of_ble_eq_true rfl) (fun p e s m args below meth c C => ?_)
  unfold wp_L_isLineSo at hw
  have C : CX E p l s m args meth c cL_isLineSo 5 "TaktLineLaw" "isLineSo" (some .boolean) [] := C
  show WS E p l e (rmOf 10 mc ms 196) s m args below meth c 5 (vx_MQ below (qcP E (puI h post)) (xcP E (pxP h px)) args s mc ms (bsA E)) h 0 0 0 [(0, .ref p0)] []
  refine r_iconst (v := (0 : Int32)) C dL_isLineSo_0 (by decide) ?_
  refine r_istore_n C dL_isLineSo_1 rfl (by decide) [(0, .ref p0), (1, .int (0 : Int32))] ⟨rfl, rfl, trivial⟩ ?_
  refine r_iconst (v := (0 : Int32)) C dL_isLineSo_2 (by decide) ?_
  refine r_istore_n C dL_isLineSo_3 rfl (by decide) [(0, .ref p0), (1, .int (0 : Int32)), (2, .int (0 : Int32))] ⟨rfl, rfl, rfl, trivial⟩ ?_
  refine r_iconst (v := (0 : Int32)) C dL_isLineSo_4 (by decide) ?_
  refine r_istore_n C dL_isLineSo_5 rfl (by decide) [(0, .ref p0), (1, .int (0 : Int32)), (2, .int (0 : Int32)), (3, .int (0 : Int32))] ⟨rfl, rfl, rfl, rfl, trivial⟩ ?_
  replace hw := hw (fun (v6_1 : Int32) (v6_2 : Int32) (v6_3 : Int32) (c6 : Nat) (s6 : Nat) => c6 ≤ mc → s6 ≤ ms → WS E p l e (rmOf 10 mc ms 196) s m args below meth c 5 (vx_MQ below (qcP E (puI h post)) (xcP E (pxP h px)) args s mc ms (bsA E)) h c6 s6 6 [(0, .ref p0), (1, .int v6_1), (2, .int v6_2), (3, .int v6_3)] []) (by
    intro v6_1 v6_2 v6_3 c6 s6 hv bc6 bs6
    replace hw := hv
    clear hv
    refine r_iload_n C dL_isLineSo_6 rfl rfl ?_
    refine r_bipush (v := (30 : Int32)) C dL_isLineSo_7 (by decide) ?_
    replace hw := hw (fun (c73 : Nat) (s73 : Nat) => c73 ≤ mc → s73 ≤ ms → WS E p l e (rmOf 10 mc ms 196) s m args below meth c 5 (vx_MQ below (qcP E (puI h post)) (xcP E (pxP h px)) args s mc ms (bsA E)) h c73 s73 73 [(0, .ref p0), (1, .int v6_1), (2, .int v6_2)] []) (by
      intro c73 s73 hv bc73 bs73
      replace hw := hv
      clear hv
      refine r_iconst (v := (0 : Int32)) C dL_isLineSo_73 (by decide) ?_
      refine r_istore_n C dL_isLineSo_74 rfl (by decide) [(0, .ref p0), (1, .int v6_1), (2, .int v6_2), (3, .int (0 : Int32))] ⟨rfl, rfl, rfl, rfl, trivial⟩ ?_
      replace hw := hw (fun (v75_3 : Int32) (c75 : Nat) (s75 : Nat) => c75 ≤ mc → s75 ≤ ms → WS E p l e (rmOf 10 mc ms 196) s m args below meth c 5 (vx_MQ below (qcP E (puI h post)) (xcP E (pxP h px)) args s mc ms (bsA E)) h c75 s75 75 [(0, .ref p0), (1, .int v6_1), (2, .int v6_2), (3, .int v75_3)] []) (by
        intro v75_3 c75 s75 hv bc75 bs75
        replace hw := hv
        clear hv
        refine r_iload_n C dL_isLineSo_75 rfl rfl ?_
        refine r_bipush (v := (8 : Int32)) C dL_isLineSo_76 (by decide) ?_
        refine r_icmp_ge C 127 dL_isLineSo_78 (by decide) (fun z1 => ?_) (fun z1 => ?_)
        · replace hw := hw.1 z1
          refine r_aload_n C dL_isLineSo_127 rfl rfl ?_
          obtain ⟨g3, hw⟩ := hw
          refine r_callV (As := []) (st := []) C (m_X5_atLarge hl hw) v_X5_atLarge w_716 K7 g3 (by decide) ob7 rfl ⟨leb rfl, leb rfl⟩ ⟨bc75, bs75⟩ rfl (leb rfl) dL_isLineSo_128 (fun _ _ z => z.elim) (kpI (K := fun hK sK => WS E p l e (rmOf 10 mc ms 196) s m args below meth c 5 (vx_MQ below (qcP E (puI h post)) (xcP E (pxP h px)) args s mc ms (bsA E)) hK (c75 + 0) (s75 + 0) (128 + 3) [(0, .ref p0), (1, .int v6_1), (2, .int v6_2), (3, .int v75_3)] sK) (fun x2 hv => ?_))
          replace hw := hv
          clear hv
          replace hw := hw (fun (t156_0 : Int32) => WS E p l e (rmOf 10 mc ms 196) s m args below meth c 5 (vx_MQ below (qcP E (puI h post)) (xcP E (pxP h px)) args s mc ms (bsA E)) h (c75 + 0) (s75 + 0) 156 [] [.int t156_0]) (by
            intro t156_0 hv
            replace hw := hv
            clear hv
            obtain ⟨y4, hw⟩ := hw
            exact r_zret C y4 dL_isLineSo_156 bc75 bs75 ⟨_, rfl, hw, rfl⟩
            )
          replace hw := hw (WS E p l e (rmOf 10 mc ms 196) s m args below meth c 5 (vx_MQ below (qcP E (puI h post)) (xcP E (pxP h px)) args s mc ms (bsA E)) h (c75 + 0) (s75 + 0) 155 [] []) (by
            intro hv
            replace hw := hv
            clear hv
            refine r_iconst (v := (0 : Int32)) C dL_isLineSo_155 (by decide) ?_
            exact (r_subk hw trivial)
            )
          refine r_if_lt C 155 dL_isLineSo_131 (by decide) (fun z5 => ?_) (fun z5 => ?_)
          · replace hw := hw.1 z5
            exact (r_subk hw trivial)
          · replace hw := hw.2 z5
            refine r_aload_n C dL_isLineSo_134 rfl rfl ?_
            refine r_callV (As := []) (st := []) C (m_X5_atLarge hl hw) v_X5_atLarge w_716 K7 g3 (by decide) ob7 rfl ⟨leb rfl, leb rfl⟩ ⟨bc75, bs75⟩ rfl (leb rfl) dL_isLineSo_135 (fun _ _ z => z.elim) (kpI (K := fun hK sK => WS E p l e (rmOf 10 mc ms 196) s m args below meth c 5 (vx_MQ below (qcP E (puI h post)) (xcP E (pxP h px)) args s mc ms (bsA E)) hK (c75 + 0 + 0) (s75 + 0 + 0) (135 + 3) [(0, .ref p0), (1, .int v6_1), (2, .int v6_2), (3, .int v75_3)] sK) (fun x6 hv => ?_))
            replace hw := hv
            clear hv
            refine r_iload_n C dL_isLineSo_138 rfl rfl ?_
            refine r_icmp_gt C 155 dL_isLineSo_139 (by decide) (fun z7 => ?_) (fun z7 => ?_)
            · replace hw := hw.1 z7
              exact (r_subk hw trivial)
            · replace hw := hw.2 z7
              refine r_aload_n C dL_isLineSo_142 rfl rfl ?_
              refine r_callV (As := []) (st := []) C (m_X5_images hl hw) v_X5_images w_511 K7 g3 (by decide) ob7 rfl ⟨leb rfl, leb rfl⟩ ⟨bc75, bs75⟩ rfl (leb rfl) dL_isLineSo_143 (fun _ _ z => z.elim) (kpI (K := fun hK sK => WS E p l e (rmOf 10 mc ms 196) s m args below meth c 5 (vx_MQ below (qcP E (puI h post)) (xcP E (pxP h px)) args s mc ms (bsA E)) hK (c75 + 0 + 0 + 0) (s75 + 0 + 0 + 0) (143 + 3) [(0, .ref p0), (1, .int v6_1), (2, .int v6_2), (3, .int v75_3)] sK) (fun x8 hv => ?_))
              replace hw := hv
              clear hv
              refine r_bipush (v := (40 : Int32)) C dL_isLineSo_146 (by decide) ?_
              refine r_icmp_gt C 155 dL_isLineSo_148 (by decide) (fun z9 => ?_) (fun z9 => ?_)
              · replace hw := hw.1 z9
                exact (r_subk hw trivial)
              · replace hw := hw.2 z9
                refine r_iconst (v := (1 : Int32)) C dL_isLineSo_151 (by decide) ?_
                refine r_goto C 156 dL_isLineSo_152 (by decide) ?_
                exact (r_subk hw trivial)
        · replace hw := hw.2 z1
          refine r_aload_n C dL_isLineSo_81 rfl rfl ?_
          refine r_iload_n C dL_isLineSo_82 rfl rfl ?_
          obtain ⟨b11, d11, hw⟩ := hw
          obtain ⟨g12, hw⟩ := hw
          refine r_callV (As := [.int v75_3]) (st := []) C (m_X5_carAt hl hw) v_X5_carAt w_533 K7 g12 (by decide) ob7 rfl ⟨leb rfl, leb rfl⟩ ⟨b11, d11⟩ rfl (leb rfl) dL_isLineSo_83 (fun X h9 hx => by obtain ⟨hx, rfl⟩ := hx; exact r_out C ⟨hx, rfl⟩ b11 d11) (kpI (K := fun hK sK => WS E p l e (rmOf 10 mc ms 196) s m args below meth c 5 (vx_MQ below (qcP E (puI h post)) (xcP E (pxP h px)) args s mc ms (bsA E)) hK (c75 + 1) (s75 + 6) (83 + 3) [(0, .ref p0), (1, .int v6_1), (2, .int v6_2), (3, .int v75_3)] sK) (fun x10 hv => ?_))
          replace hw := hv
          clear hv
          refine r_istore C dL_isLineSo_86 (by decide) [(0, .ref p0), (1, .int v6_1), (2, .int v6_2), (3, .int v75_3), (4, .int x10)] ⟨rfl, rfl, rfl, rfl, rfl, trivial⟩ ?_
          refine r_iload C dL_isLineSo_88 rfl ?_
          refine r_iload_n C dL_isLineSo_90 rfl rfl ?_
          replace hw := hw (fun (c119 : Nat) (s119 : Nat) => c119 ≤ mc → s119 ≤ ms → WS E p l e (rmOf 10 mc ms 196) s m args below meth c 5 (vx_MQ below (qcP E (puI h post)) (xcP E (pxP h px)) args s mc ms (bsA E)) h c119 s119 119 [] []) (by
            intro c119 s119 hv bc119 bs119
            replace hw := hv
            clear hv
            refine r_iconst (v := (0 : Int32)) C dL_isLineSo_119 (by decide) ?_
            exact r_zret C (Or.inl rfl) dL_isLineSo_120 bc119 bs119 ⟨_, rfl, hw, rfl⟩
            )
          refine r_icmp_ge C 119 dL_isLineSo_91 (by decide) (fun z13 => ?_) (fun z13 => ?_)
          · replace hw := hw.1 z13
            exact (r_subk (hw b11 d11) trivial)
          · replace hw := hw.2 z13
            refine r_iload C dL_isLineSo_94 rfl ?_
            replace hw := hw (fun (c121 : Nat) (s121 : Nat) => c121 ≤ mc → s121 ≤ ms → WS E p l e (rmOf 10 mc ms 196) s m args below meth c 5 (vx_MQ below (qcP E (puI h post)) (xcP E (pxP h px)) args s mc ms (bsA E)) h c121 s121 121 [(0, .ref p0), (1, .int v6_1), (2, .int v6_2), (3, .int v75_3)] []) (by
              intro c121 s121 hv bc121 bs121
              replace hw := hv
              clear hv
              refine r_iinc C (v75_3 + (1 : Int32)) dL_isLineSo_121 rfl rfl (by decide) [(0, .ref p0), (1, .int v6_1), (2, .int v6_2), (3, .int (v75_3 + (1 : Int32)))] ⟨rfl, rfl, rfl, rfl, trivial⟩ ?_
              refine r_goto C 75 dL_isLineSo_124 (by decide) ?_
              exact (r_subk (hw bc121 bs121) ⟨rfl, rfl, rfl, rfl, trivial⟩)
              )
            refine r_if_lt C 121 dL_isLineSo_96 (by decide) (fun z14 => ?_) (fun z14 => ?_)
            · replace hw := hw.1 z14
              exact (r_subk (hw b11 d11) ⟨rfl, rfl, rfl, rfl, trivial⟩)
            · replace hw := hw.2 z14
              refine r_aload_n C dL_isLineSo_99 rfl rfl ?_
              refine r_iload C dL_isLineSo_100 rfl ?_
              obtain ⟨b16, d16, hw⟩ := hw
              refine r_callV (As := [.int x10]) (st := []) C (m_X5_whereIs hl hw) v_X5_whereIs w_522 K7 g12 (by decide) ob7 rfl ⟨leb rfl, leb rfl⟩ ⟨b16, d16⟩ rfl (leb rfl) dL_isLineSo_102 (fun X h9 hx => by obtain ⟨hx, rfl⟩ := hx; exact r_out C ⟨hx, rfl⟩ b16 d16) (kpI (K := fun hK sK => WS E p l e (rmOf 10 mc ms 196) s m args below meth c 5 (vx_MQ below (qcP E (puI h post)) (xcP E (pxP h px)) args s mc ms (bsA E)) hK (c75 + 1 + 1) (s75 + 6 + 6) (102 + 3) [(0, .ref p0), (1, .int v6_1), (2, .int v6_2), (3, .int v75_3), (4, .int x10)] sK) (fun x15 hv => ?_))
              replace hw := hv
              clear hv
              refine r_iconst (v := (1 : Int32)) C dL_isLineSo_105 (by decide) ?_
              refine r_icmp_ne C 119 dL_isLineSo_106 (by decide) (fun z17 => ?_) (fun z17 => ?_)
              · replace hw := hw.2 z17
                exact (r_subk (hw b16 d16) trivial)
              · replace hw := hw.1 z17
                refine r_aload_n C dL_isLineSo_109 rfl rfl ?_
                refine r_iload C dL_isLineSo_110 rfl ?_
                obtain ⟨b19, d19, hw⟩ := hw
                refine r_callV (As := [.int x10]) (st := []) C (m_X5_stationOf hl hw) v_X5_stationOf w_724 K7 g12 (by decide) ob7 rfl ⟨leb rfl, leb rfl⟩ ⟨b19, d19⟩ rfl (leb rfl) dL_isLineSo_112 (fun X h9 hx => by obtain ⟨hx, rfl⟩ := hx; exact r_out C ⟨hx, rfl⟩ b19 d19) (kpI (K := fun hK sK => WS E p l e (rmOf 10 mc ms 196) s m args below meth c 5 (vx_MQ below (qcP E (puI h post)) (xcP E (pxP h px)) args s mc ms (bsA E)) hK (c75 + 1 + 1 + 1) (s75 + 6 + 6 + 6) (112 + 3) [(0, .ref p0), (1, .int v6_1), (2, .int v6_2), (3, .int v75_3), (4, .int x10)] sK) (fun x18 hv => ?_))
                replace hw := hv
                clear hv
                refine r_iload_n C dL_isLineSo_115 rfl rfl ?_
                refine r_icmp_eq C 121 dL_isLineSo_116 (by decide) (fun z20 => ?_) (fun z20 => ?_)
                · replace hw := hw.1 z20
                  exact (r_subk (hw b19 d19) ⟨rfl, rfl, rfl, rfl, trivial⟩)
                · replace hw := hw.2 z20
                  exact (r_subk (hw b19 d19) trivial)
        )
      exact (r_subk (hw bc73 bs73) ⟨rfl, rfl, rfl, rfl, trivial⟩)
      )
    refine r_icmp_ge C 73 dL_isLineSo_9 (by decide) (fun z21 => ?_) (fun z21 => ?_)
    · replace hw := hw.1 z21
      exact (r_subk (hw bc6 bs6) ⟨rfl, rfl, rfl, trivial⟩)
    · replace hw := hw.2 z21
      refine r_aload_n C dL_isLineSo_12 rfl rfl ?_
      refine r_iload_n C dL_isLineSo_13 rfl rfl ?_
      obtain ⟨b23, d23, hw⟩ := hw
      refine r_callSW (As := [.ref p0, .int v6_3]) (st := []) C (m_L_whereIs hl hw) v_L_whereIs w_518 rfl ⟨leb rfl, leb rfl⟩ ⟨b23, d23⟩ rfl (leb rfl) dL_isLineSo_14 (fun _ _ z => z.elim) (kpI (K := fun hK sK => WS E p l e (rmOf 10 mc ms 196) s m args below meth c 5 (vx_MQ below (qcP E (puI h post)) (xcP E (pxP h px)) args s mc ms (bsA E)) hK (c6 + 1) (s6 + 6) (14 + 3) [(0, .ref p0), (1, .int v6_1), (2, .int v6_2), (3, .int v6_3)] sK) (fun x22 hv => ?_))
      replace hw := hv
      clear hv
      refine r_if_lt C 73 dL_isLineSo_17 (by decide) (fun z24 => ?_) (fun z24 => ?_)
      · replace hw := hw.1 z24
        exact (r_subk (hw b23 d23) ⟨rfl, rfl, rfl, trivial⟩)
      · replace hw := hw.2 z24
        refine r_iinc C (v6_1 + (1 : Int32)) dL_isLineSo_20 rfl rfl (by decide) [(0, .ref p0), (1, .int (v6_1 + (1 : Int32))), (2, .int v6_2), (3, .int v6_3)] ⟨rfl, rfl, rfl, rfl, trivial⟩ ?_
        refine r_aload_n C dL_isLineSo_23 rfl rfl ?_
        refine r_iload_n C dL_isLineSo_24 rfl rfl ?_
        obtain ⟨k25, n25, hw⟩ := hw
        obtain ⟨b26, d26, hw⟩ := hw
        refine r_callS (As := [.ref p0, .int v6_3]) (st := []) C (m_L_isCarSo hl hw) v_L_isCarSo w_754 rfl ⟨leb rfl, leb rfl⟩ ⟨b26, d26⟩ rfl (leb rfl) dL_isLineSo_25 (fun X h9 hx => by obtain ⟨hx, rfl⟩ := hx; exact r_out C ⟨hx, rfl⟩ b26 d26) (kpI (K := fun hK sK => WS E p l e (rmOf 10 mc ms 196) s m args below meth c 5 (vx_MQ below (qcP E (puI h post)) (xcP E (pxP h px)) args s mc ms (bsA E)) hK (c6 + 1 + k25) (s6 + 6 + n25) (25 + 3) [(0, .ref p0), (1, .int (v6_1 + (1 : Int32))), (2, .int v6_2), (3, .int v6_3)] sK) (fun x25 hv => ?_))
        replace hw := hv
        clear hv
        replace hw := hw (fun (c48 : Nat) (s48 : Nat) => c48 ≤ mc → s48 ≤ ms → WS E p l e (rmOf 10 mc ms 196) s m args below meth c 5 (vx_MQ below (qcP E (puI h post)) (xcP E (pxP h px)) args s mc ms (bsA E)) h c48 s48 48 [] []) (by
          intro c48 s48 hv bc48 bs48
          replace hw := hv
          clear hv
          refine r_iconst (v := (0 : Int32)) C dL_isLineSo_48 (by decide) ?_
          exact r_zret C (Or.inl rfl) dL_isLineSo_49 bc48 bs48 ⟨_, rfl, hw, rfl⟩
          )
        refine r_if_eq C 48 dL_isLineSo_28 (by decide) (fun z27 => ?_) (fun z27 => ?_)
        · replace hw := hw.1 z27
          exact (r_subk (hw b26 d26) trivial)
        · replace hw := hw.2 z27
          refine r_aload_n C dL_isLineSo_31 rfl rfl ?_
          refine r_iload_n C dL_isLineSo_32 rfl rfl ?_
          obtain ⟨b29, d29, hw⟩ := hw
          obtain ⟨g30, hw⟩ := hw
          refine r_callV (As := [.int v6_3]) (st := []) C (m_X5_whereIs hl hw) v_X5_whereIs w_522 K7 g30 (by decide) ob7 rfl ⟨leb rfl, leb rfl⟩ ⟨b29, d29⟩ rfl (leb rfl) dL_isLineSo_33 (fun X h9 hx => by obtain ⟨hx, rfl⟩ := hx; exact r_out C ⟨hx, rfl⟩ b29 d29) (kpI (K := fun hK sK => WS E p l e (rmOf 10 mc ms 196) s m args below meth c 5 (vx_MQ below (qcP E (puI h post)) (xcP E (pxP h px)) args s mc ms (bsA E)) hK (c6 + 1 + k25 + 1) (s6 + 6 + n25 + 6) (33 + 3) [(0, .ref p0), (1, .int (v6_1 + (1 : Int32))), (2, .int v6_2), (3, .int v6_3)] sK) (fun x28 hv => ?_))
          replace hw := hv
          clear hv
          refine r_iconst (v := (3 : Int32)) C dL_isLineSo_36 (by decide) ?_
          replace hw := hw (fun (c50 : Nat) (s50 : Nat) => c50 ≤ mc → s50 ≤ ms → WS E p l e (rmOf 10 mc ms 196) s m args below meth c 5 (vx_MQ below (qcP E (puI h post)) (xcP E (pxP h px)) args s mc ms (bsA E)) h c50 s50 50 [(0, .ref p0), (1, .int (v6_1 + (1 : Int32))), (2, .int v6_2), (3, .int v6_3)] []) (by
            intro c50 s50 hv bc50 bs50
            replace hw := hv
            clear hv
            refine r_iload_n C dL_isLineSo_50 rfl rfl ?_
            refine r_aload_n C dL_isLineSo_51 rfl rfl ?_
            refine r_iload_n C dL_isLineSo_52 rfl rfl ?_
            obtain ⟨b32, d32, hw⟩ := hw
            refine r_callV (As := [.int v6_3]) (st := [.int v6_2]) C (m_X5_whereIs hl hw) v_X5_whereIs w_522 K7 g30 (by decide) ob7 rfl ⟨leb rfl, leb rfl⟩ ⟨b32, d32⟩ rfl (leb rfl) dL_isLineSo_53 (fun X h9 hx => by obtain ⟨hx, rfl⟩ := hx; exact r_out C ⟨hx, rfl⟩ b32 d32) (kpI (K := fun hK sK => WS E p l e (rmOf 10 mc ms 196) s m args below meth c 5 (vx_MQ below (qcP E (puI h post)) (xcP E (pxP h px)) args s mc ms (bsA E)) hK (c50 + 1) (s50 + 6) (53 + 3) [(0, .ref p0), (1, .int (v6_1 + (1 : Int32))), (2, .int v6_2), (3, .int v6_3)] sK) (fun x31 hv => ?_))
            replace hw := hv
            clear hv
            refine r_iconst (v := (3 : Int32)) C dL_isLineSo_56 (by decide) ?_
            replace hw := hw (fun (t65_0 : Int32) => WS E p l e (rmOf 10 mc ms 196) s m args below meth c 5 (vx_MQ below (qcP E (puI h post)) (xcP E (pxP h px)) args s mc ms (bsA E)) h (c50 + 1) (s50 + 6) 65 [(0, .ref p0), (1, .int (v6_1 + (1 : Int32))), (3, .int v6_3)] [.int t65_0, .int v6_2]) (by
              intro t65_0 hv
              replace hw := hv
              clear hv
              refine r_iadd C dL_isLineSo_65 ?_
              refine r_istore_n C dL_isLineSo_66 rfl (by decide) [(0, .ref p0), (1, .int (v6_1 + (1 : Int32))), (2, .int (v6_2 + t65_0)), (3, .int v6_3)] ⟨rfl, rfl, rfl, rfl, trivial⟩ ?_
              refine r_iinc C (v6_3 + (1 : Int32)) dL_isLineSo_67 rfl rfl (by decide) [(0, .ref p0), (1, .int (v6_1 + (1 : Int32))), (2, .int (v6_2 + t65_0)), (3, .int (v6_3 + (1 : Int32)))] ⟨rfl, rfl, rfl, rfl, trivial⟩ ?_
              refine r_goto C 6 dL_isLineSo_70 (by decide) ?_
              exact (r_subk (hw b32 d32) ⟨rfl, rfl, rfl, rfl, trivial⟩)
              )
            refine r_icmp_ne C 64 dL_isLineSo_57 (by decide) (fun z33 => ?_) (fun z33 => ?_)
            · replace hw := hw.2 z33
              refine r_iconst (v := (0 : Int32)) C dL_isLineSo_64 (by decide) ?_
              exact (r_subk hw ⟨rfl, rfl, rfl, trivial⟩)
            · replace hw := hw.1 z33
              refine r_iconst (v := (1 : Int32)) C dL_isLineSo_60 (by decide) ?_
              refine r_goto C 65 dL_isLineSo_61 (by decide) ?_
              exact (r_subk hw ⟨rfl, rfl, rfl, trivial⟩)
            )
          refine r_icmp_ne C 50 dL_isLineSo_37 (by decide) (fun z34 => ?_) (fun z34 => ?_)
          · replace hw := hw.2 z34
            exact (r_subk (hw b29 d29) ⟨rfl, rfl, rfl, rfl, trivial⟩)
          · replace hw := hw.1 z34
            refine r_aload_n C dL_isLineSo_40 rfl rfl ?_
            refine r_iload_n C dL_isLineSo_41 rfl rfl ?_
            obtain ⟨b36, d36, hw⟩ := hw
            refine r_callV (As := [.int v6_3]) (st := []) C (m_X5_isTested hl hw) v_X5_isTested w_736 K7 g30 (by decide) ob7 rfl ⟨leb rfl, leb rfl⟩ ⟨b36, d36⟩ rfl (leb rfl) dL_isLineSo_42 (fun X h9 hx => by obtain ⟨hx, rfl⟩ := hx; exact r_out C ⟨hx, rfl⟩ b36 d36) (kpI (K := fun hK sK => WS E p l e (rmOf 10 mc ms 196) s m args below meth c 5 (vx_MQ below (qcP E (puI h post)) (xcP E (pxP h px)) args s mc ms (bsA E)) hK (c6 + 1 + k25 + 1 + 1) (s6 + 6 + n25 + 6 + 6) (42 + 3) [(0, .ref p0), (1, .int (v6_1 + (1 : Int32))), (2, .int v6_2), (3, .int v6_3)] sK) (fun x35 hv => ?_))
            replace hw := hv
            clear hv
            refine r_if_ne C 50 dL_isLineSo_45 (by decide) (fun z37 => ?_) (fun z37 => ?_)
            · replace hw := hw.2 z37
              exact (r_subk (hw b36 d36) ⟨rfl, rfl, rfl, rfl, trivial⟩)
            · replace hw := hw.1 z37
              exact (r_subk (hw b36 d36) trivial)
    )
  exact (r_subk (hw (Nat.zero_le _) (Nat.zero_le _)) ⟨rfl, rfl, rfl, rfl, trivial⟩)
theorem v_L_isLineSo : MS yL_isLineSo cL_isLineSo 5 (some .boolean) 1 := ⟨w_753, w_752, w_36, ⟨by decide +kernel, by decide +kernel, by decide +kernel⟩⟩

