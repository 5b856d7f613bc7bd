/-! the law itself -/
def wp_law (dE : Nat) (dS : Nat × Nat × (Nat → Int32)) (mc ms : Nat) (h : Hp) (b : Nat) : Prop :=
(1 ≤ mc ∧
 (10 ≤ ms ∧
 (∀ q2 : Nat, hT h q2 = 0 →
 (∀ h3, h3 = sN h q2 7 0 →
 (∃ k5 n5 : Nat,
 (1 + k5 ≤ mc ∧
 (10 + n5 ≤ ms ∧
 wp_X5_init dE k5 n5 h3 q2 (fun h5 =>
 (1 + k5 + 1 ≤ mc ∧
 (10 + n5 + 10 ≤ ms ∧
 (∀ q8 : Nat, hT h5 q8 = 0 →
 (∀ h9, h9 = sN h5 q8 7 0 →
 (∃ k11 n11 : Nat,
 (1 + k5 + 1 + k11 ≤ mc ∧
 (10 + n5 + 10 + n11 ≤ ms ∧
 wp_X5_init dE k11 n11 h9 q8 (fun h11 =>
 (∀ J18 : Int32 → Hp → Nat → Nat → Prop, (∀ (v18_3 : Int32) (h18_ : Hp) (c18 : Nat) (s18 : Nat), (((100 : Int32) ≤ v18_3 →
 (c18 + 1 ≤ mc ∧
 (s18 + 6 ≤ ms ∧
 wp_L_whereIs h18_ q2 (0 : Int32) (fun x14 =>
 (∀ J141 : Int32 → Hp → Nat → Nat → Prop, (∀ (t141_0 : Int32) (h141_ : Hp) (c141 : Nat) (s141 : Nat), (∃ k16 n16 : Nat,
 (c141 + k16 ≤ mc ∧
 (s141 + n16 ≤ ms ∧
 (hT h141_ q2 = 7 ∧
 wp_X5_takt dE k16 n16 h141_ q2 (5 : Int32) (fun x16 h16 =>
 (c141 + k16 + 1 ≤ mc ∧
 (s141 + n16 + 6 ≤ ms ∧
 wp_L_whereIs h16 q8 (0 : Int32) (fun x19 =>
 (∀ J173 : Hp → Nat → Nat → Prop, (∀ (h173_ : Hp) (c173 : Nat) (s173 : Nat), (∀ J176 : Int32 → Int32 → Hp → Nat → Nat → Prop, (∀ (v176_4 : Int32) (v176_5 : Int32) (h176_ : Hp) (c176 : Nat) (s176 : Nat), (((5 : Int32) ≤ v176_5 →
 (∀ J220 : Int32 → Nat → Nat → Prop, (∀ (t220_0 : Int32) (c220 : Nat) (s220 : Nat), (t220_0 = (1 : Int32) ∧
 True) → J220 t220_0 c220 s220) →
 (∀ J219 : Nat → Nat → Prop, (∀ (c219 : Nat) (s219 : Nat), (J220 (0 : Int32) c219 s219) → J219 c219 s219) →
 ((t141_0 = 0 →
 J219 c176 s176) ∧ (¬ (t141_0 = 0) →
 ((v176_4 = 0 →
 (∃ k24 n24 : Nat,
 (c176 + k24 ≤ mc ∧
 (s176 + n24 ≤ ms ∧
 wp_L_areAlike k24 n24 h176_ q2 q8 (fun x24 =>
 ((x24 = 0 →
 J219 (c176 + k24) (s176 + n24)) ∧ (¬ (x24 = 0) →
 J220 (1 : Int32) (c176 + k24) (s176 + n24)))) (fun _ => False))))) ∧ (¬ (v176_4 = 0) →
 J219 c176 s176))))))) ∧ (¬ ((5 : Int32) ≤ v176_5) →
 (∃ k27 n27 : Nat,
 (c176 + k27 ≤ mc ∧
 (s176 + n27 ≤ ms ∧
 (hT h176_ q8 = 7 ∧
 wp_X5_takt dE k27 n27 h176_ q8 (1 : Int32) (fun x27 h27 =>
 J176 (v176_4 - x27) (v176_5 + (1 : Int32)) h27 (c176 + k27) (s176 + n27)) (fun _ _ => False))))))) → J176 v176_4 v176_5 h176_ c176 s176) →
 J176 x16 (0 : Int32) h173_ c173 s173) → J173 h173_ c173 s173) →
 ((x19 < 0 →
 J173 h16 (c141 + k16 + 1) (s141 + n16 + 6)) ∧ (¬ (x19 < 0) →
 (hT h16 q8 = 7 ∧
 wp_X5_images h16 q8 (fun x31 =>
 (((40 : Int32) ≤ x31 →
 J173 h16 (c141 + k16 + 1 + 0) (s141 + n16 + 6 + 0)) ∧ (¬ ((40 : Int32) ≤ x31) →
 (c141 + k16 + 1 + 0 + 4 ≤ mc ∧
 (s141 + n16 + 6 + 0 + 68 ≤ ms ∧
 wp_X5_build dE h16 q8 (0 : Int32) (fun x34 h34 =>
 J173 h34 (c141 + k16 + 1 + 0 + 4) (s141 + n16 + 6 + 0 + 68)) (fun _ _ => False)))))))))))))) (fun _ _ => False))))) → J141 t141_0 h141_ c141 s141) →
 (∀ J136 : Hp → Nat → Nat → Prop, (∀ (h136_ : Hp) (c136 : Nat) (s136 : Nat), (J141 (1 : Int32) h136_ c136 s136) → J136 h136_ c136 s136) →
 ((x14 < 0 →
 J136 h18_ (c18 + 1) (s18 + 6)) ∧ (¬ (x14 < 0) →
 (hT h18_ q2 = 7 ∧
 wp_X5_images h18_ q2 (fun x37 =>
 ((x37 = (40 : Int32) →
 J136 h18_ (c18 + 1 + 0) (s18 + 6 + 0)) ∧ (¬ (x37 = (40 : Int32)) →
 (c18 + 1 + 0 + 4 ≤ mc ∧
 (s18 + 6 + 0 + 68 ≤ ms ∧
 wp_X5_build dE h18_ q2 (0 : Int32) (fun x40 h40 =>
 (c18 + 1 + 0 + 4 + 4 ≤ mc ∧
 (s18 + 6 + 0 + 68 + 68 ≤ ms ∧
 (hT h40 q2 = 7 ∧
 wp_X5_build dE h40 q2 (0 : Int32) (fun x42 h42 =>
 ((x40 = x42 →
 J136 h42 (c18 + 1 + 0 + 4 + 4) (s18 + 6 + 0 + 68 + 68)) ∧ (¬ (x40 = x42) →
 J141 (0 : Int32) h42 (c18 + 1 + 0 + 4 + 4) (s18 + 6 + 0 + 68 + 68)))) (fun _ _ => False))))) (fun _ _ => False))))))))))))))) ∧ (¬ ((100 : Int32) ≤ v18_3) →
 wp_L_cell dS h18_ b v18_3 (fun x46 =>
 (hT h18_ q2 = 7 ∧
 wp_X5_takts h18_ q2 (fun x47 =>
 (∃ k49 n49 : Nat,
 (c18 + 0 + 0 + k49 ≤ mc ∧
 (s18 + 0 + 0 + n49 ≤ ms ∧
 wp_L_act dE k49 n49 h18_ q2 x46 (fun x49 h49 =>
 (∀ J80 : Hp → Nat → Nat → Prop, (∀ (h80_ : Hp) (c80 : Nat) (s80 : Nat), (False) → J80 h80_ c80 s80) →
 (∀ J63 : Hp → Nat → Nat → Prop, (∀ (h63_ : Hp) (c63 : Nat) (s63 : Nat), (∃ k51 n51 : Nat,
 (c63 + k51 ≤ mc ∧
 (s63 + n51 ≤ ms ∧
 wp_L_areAlike k51 n51 h63_ q2 q8 (fun x51 =>
 ((x51 = 0 →
 J80 h63_ (c63 + k51) (s63 + n51)) ∧ (¬ (x51 = 0) →
 (hT h63_ q2 = 7 ∧
 wp_X5_takts h63_ q2 (fun x54 =>
 ((x47 ≤ x54 →
 ((¬ (10 : Int32) = 0) ∧
 (∀ J100 : Nat → Nat → Prop, (∀ (c100 : Nat) (s100 : Nat), (J18 (v18_3 + (1 : Int32)) h63_ c100 s100) → J100 c100 s100) →
 (((v18_3 - v18_3 / (10 : Int32) * (10 : Int32)) = (9 : Int32) →
 (∃ k59 n59 : Nat,
 (c63 + k51 + 0 + k59 ≤ mc ∧
 (s63 + n51 + 0 + n59 ≤ ms ∧
 wp_L_isLineSo k59 n59 h63_ q2 (fun x59 =>
 ((x59 = 0 →
 False) ∧ (¬ (x59 = 0) →
 J100 (c63 + k51 + 0 + k59) (s63 + n51 + 0 + n59)))) (fun _ => False))))) ∧ (¬ ((v18_3 - v18_3 / (10 : Int32) * (10 : Int32)) = (9 : Int32)) →
 J100 (c63 + k51 + 0) (s63 + n51 + 0)))))) ∧ (¬ (x47 ≤ x54) →
 J80 h63_ (c63 + k51 + 0) (s63 + n51 + 0)))))))) (fun _ => False)))) → J63 h63_ c63 s63) →
 ((x49 = (-99999 : Int32) →
 J63 h49 (c18 + 0 + 0 + k49) (s18 + 0 + 0 + n49)) ∧ (¬ (x49 = (-99999 : Int32)) →
 (∃ k63 n63 : Nat,
 (c18 + 0 + 0 + k49 + k63 ≤ mc ∧
 (s18 + 0 + 0 + n49 + n63 ≤ ms ∧
 wp_L_act dE k63 n63 h49 q8 x46 (fun x63 h63 =>
 ((x63 = x49 →
 J63 h63 (c18 + 0 + 0 + k49 + k63) (s18 + 0 + 0 + n49 + n63)) ∧ (¬ (x63 = x49) →
 J80 h63 (c18 + 0 + 0 + k49 + k63) (s18 + 0 + 0 + n49 + n63)))) (fun _ _ => False))))))))) (fun _ _ => False))))))))) → J18 v18_3 h18_ c18 s18) →
 J18 (0 : Int32) h11 (1 + k5 + 1 + k11) (10 + n5 + 10 + n11))))))))))))))))))
set_option maxHeartbeats 4000000 in
set_option maxRecDepth 100000 in
theorem mc_law {E : Ev} {p : Program} {l : Launch} {e : Env} {s : State} {m : MethodId} {args : Array Value} {below : List Frame} {meth : Method} {c : Code} {Q : State → Prop} {nm : String} {tb : List ExceptionTableEntry} (C : CX E p l s m args meth c cL_law 7 "TaktLineLaw" nm (some .boolean) tb) (hl : l.stackTraces = false) {h : Hp} {b : Nat} (hend : ∀ h cc ss lv, cc ≤ 729213 → ss ≤ 6914059 → WS E p l e room_1 s m args below meth c 7 Q h cc ss 220 lv [.int 1]) (hw : wp_law (eE E) (eS E) 729213 6914059 h b) : WS E p l e room_1 s m args below meth c 7 Q h 0 0 0 [(0, .ref b)] [] := by
  unfold wp_law at hw
  obtain ⟨b1, d1, hw⟩ := hw
  refine r_new (t := 7) C K7 w_58 w_59 w_37 (by decide +kernel) ob7 (by decide) b1 d1 dL_law_0 (fun q2 z2 => ?_)
  replace hw := hw q2 z2
  obtain ⟨h3, eh3⟩ : ∃ z, z = sN h q2 7 0 := ⟨_, rfl⟩
  replace hw := hw h3 eh3
  rw [← eh3]
  have g4 : hT h3 q2 = 7 := by rw [eh3]; exact tag_new
  refine r_dup C dL_law_3 rfl ?_
  obtain ⟨k5, n5, hw⟩ := hw
  obtain ⟨b6, d6, hw⟩ := hw
  refine r_callI (As := []) (st := [.ref q2]) C (m_X5_init hl hw) v_X5_init w_60 rfl ⟨leb rfl, leb rfl⟩ ⟨b6, d6⟩ rfl (leb rfl) dL_law_4 (fun _ _ z => z.elim) (kkV (K := fun hK sK => WS E p l e room_1 s m args below meth c 7 Q hK (1 + k5) (10 + n5) (4 + 3) [(0, .ref b)] sK) (fun h5 hv => ?_))
  replace hw := hv
  clear hv
  refine r_astore_n C dL_law_7 rfl (by decide) [(0, .ref b), (1, .ref q2)] ⟨rfl, rfl, trivial⟩ ?_
  obtain ⟨b7, d7, hw⟩ := hw
  refine r_new (t := 7) C K7 w_58 w_59 w_37 (by decide +kernel) ob7 (by decide) b7 d7 dL_law_8 (fun q8 z8 => ?_)
  replace hw := hw q8 z8
  obtain ⟨h9, eh9⟩ : ∃ z, z = sN h5 q8 7 0 := ⟨_, rfl⟩
  replace hw := hw h9 eh9
  rw [← eh9]
  have g10 : hT h9 q8 = 7 := by rw [eh9]; exact tag_new
  refine r_dup C dL_law_11 rfl ?_
  obtain ⟨k11, n11, hw⟩ := hw
  obtain ⟨b12, d12, hw⟩ := hw
  refine r_callI (As := []) (st := [.ref q8]) C (m_X5_init hl hw) v_X5_init w_60 rfl ⟨leb rfl, leb rfl⟩ ⟨b12, d12⟩ rfl (leb rfl) dL_law_12 (fun _ _ z => z.elim) (kkV (K := fun hK sK => WS E p l e room_1 s m args below meth c 7 Q hK (1 + k5 + 1 + k11) (10 + n5 + 10 + n11) (12 + 3) [(0, .ref b), (1, .ref q2)] sK) (fun h11 hv => ?_))
  replace hw := hv
  clear hv
  refine r_astore_n C dL_law_15 rfl (by decide) [(0, .ref b), (1, .ref q2), (2, .ref q8)] ⟨rfl, rfl, rfl, trivial⟩ ?_
  refine r_iconst (v := (0 : Int32)) C dL_law_16 (by decide) ?_
  refine r_istore_n C dL_law_17 rfl (by decide) [(0, .ref b), (1, .ref q2), (2, .ref q8), (3, .int (0 : Int32))] ⟨rfl, rfl, rfl, rfl, trivial⟩ ?_
  replace hw := hw (fun (v18_3 : Int32) (h18_ : Hp) (c18 : Nat) (s18 : Nat) => c18 ≤ 729213 → s18 ≤ 6914059 → WS E p l e room_1 s m args below meth c 7 Q h18_ c18 s18 18 [(0, .ref b), (1, .ref q2), (2, .ref q8), (3, .int v18_3)] []) (by
    intro v18_3 h18_ c18 s18 hv bc18 bs18
    replace hw := hv
    clear hv
    refine r_iload_n C dL_law_18 rfl rfl ?_
    refine r_bipush (v := (100 : Int32)) C dL_law_19 (by decide) ?_
    refine r_icmp_ge C 106 dL_law_21 (by decide) (fun z13 => ?_) (fun z13 => ?_)
    · replace hw := hw.1 z13
      refine r_aload_n C dL_law_106 rfl rfl ?_
      refine r_iconst (v := (0 : Int32)) C dL_law_107 (by decide) ?_
      obtain ⟨b15, d15, hw⟩ := hw
      refine r_callSW (As := [.ref q2, .int (0 : Int32)]) (st := []) C (m_L_whereIs hl hw) v_L_whereIs w_518 rfl ⟨leb rfl, leb rfl⟩ ⟨b15, d15⟩ rfl (leb rfl) dL_law_108 (fun _ _ z => z.elim) (kpI (K := fun hK sK => WS E p l e room_1 s m args below meth c 7 Q hK (c18 + 1) (s18 + 6) (108 + 3) [(0, .ref b), (1, .ref q2), (2, .ref q8), (3, .int v18_3)] sK) (fun x14 hv => ?_))
      replace hw := hv
      clear hv
      replace hw := hw (fun (t141_0 : Int32) (h141_ : Hp) (c141 : Nat) (s141 : Nat) => c141 ≤ 729213 → s141 ≤ 6914059 → WS E p l e room_1 s m args below meth c 7 Q h141_ c141 s141 141 [(1, .ref q2), (2, .ref q8)] [.int t141_0]) (by
        intro t141_0 h141_ c141 s141 hv bc141 bs141
        replace hw := hv
        clear hv
        refine r_istore_n C dL_law_141 rfl (by decide) [(1, .ref q2), (2, .ref q8), (3, .int t141_0)] ⟨rfl, rfl, rfl, trivial⟩ ?_
        refine r_aload_n C dL_law_142 rfl rfl ?_
        refine r_iconst (v := (5 : Int32)) C dL_law_143 (by decide) ?_
        obtain ⟨k16, n16, hw⟩ := hw
        obtain ⟨b17, d17, hw⟩ := hw
        obtain ⟨g18, hw⟩ := hw
        refine r_callV (As := [.int (5 : Int32)]) (st := []) C (m_X5_takt hl hw) v_X5_takt w_149 K7 g18 (by decide) ob7 rfl ⟨leb rfl, leb rfl⟩ ⟨b17, d17⟩ rfl (leb rfl) dL_law_144 (fun X h9 hx => False.elim hx) (kkI (K := fun hK sK => WS E p l e room_1 s m args below meth c 7 Q hK (c141 + k16) (s141 + n16) (144 + 3) [(1, .ref q2), (2, .ref q8), (3, .int t141_0)] sK) (fun x16 h16 hv => ?_))
        replace hw := hv
        clear hv
        refine r_istore C dL_law_147 (by decide) [(1, .ref q2), (2, .ref q8), (3, .int t141_0), (4, .int x16)] ⟨rfl, rfl, rfl, rfl, trivial⟩ ?_
        refine r_aload_n C dL_law_149 rfl rfl ?_
        refine r_iconst (v := (0 : Int32)) C dL_law_150 (by decide) ?_
        obtain ⟨b20, d20, hw⟩ := hw
        refine r_callSW (As := [.ref q8, .int (0 : Int32)]) (st := []) C (m_L_whereIs hl hw) v_L_whereIs w_518 rfl ⟨leb rfl, leb rfl⟩ ⟨b20, d20⟩ rfl (leb rfl) dL_law_151 (fun _ _ z => z.elim) (kpI (K := fun hK sK => WS E p l e room_1 s m args below meth c 7 Q hK (c141 + k16 + 1) (s141 + n16 + 6) (151 + 3) [(1, .ref q2), (2, .ref q8), (3, .int t141_0), (4, .int x16)] sK) (fun x19 hv => ?_))
        replace hw := hv
        clear hv
        replace hw := hw (fun (h173_ : Hp) (c173 : Nat) (s173 : Nat) => c173 ≤ 729213 → s173 ≤ 6914059 → WS E p l e room_1 s m args below meth c 7 Q h173_ c173 s173 173 [(1, .ref q2), (2, .ref q8), (3, .int t141_0), (4, .int x16)] []) (by
          intro h173_ c173 s173 hv bc173 bs173
          replace hw := hv
          clear hv
          refine r_iconst (v := (0 : Int32)) C dL_law_173 (by decide) ?_
          refine r_istore C dL_law_174 (by decide) [(1, .ref q2), (2, .ref q8), (3, .int t141_0), (4, .int x16), (5, .int (0 : Int32))] ⟨rfl, rfl, rfl, rfl, rfl, trivial⟩ ?_
          replace hw := hw (fun (v176_4 : Int32) (v176_5 : Int32) (h176_ : Hp) (c176 : Nat) (s176 : Nat) => c176 ≤ 729213 → s176 ≤ 6914059 → WS E p l e room_1 s m args below meth c 7 Q h176_ c176 s176 176 [(1, .ref q2), (2, .ref q8), (3, .int t141_0), (4, .int v176_4), (5, .int v176_5)] []) (by
            intro v176_4 v176_5 h176_ c176 s176 hv bc176 bs176
            replace hw := hv
            clear hv
            refine r_iload C dL_law_176 rfl ?_
            refine r_iconst (v := (5 : Int32)) C dL_law_178 (by decide) ?_
            refine r_icmp_ge C 198 dL_law_179 (by decide) (fun z21 => ?_) (fun z21 => ?_)
            · replace hw := hw.1 z21
              refine r_iload_n C dL_law_198 rfl rfl ?_
              replace hw := hw (fun (t220_0 : Int32) (c220 : Nat) (s220 : Nat) => c220 ≤ 729213 → s220 ≤ 6914059 → WS E p l e room_1 s m args below meth c 7 Q h176_ c220 s220 220 [] [.int t220_0]) (by
                intro t220_0 c220 s220 hv bc220 bs220
                replace hw := hv
                clear hv
                obtain ⟨ev, hw⟩ := hw
                refine r_st (st' := [.int 1]) (by rw [ev]) ?_
                exact hend _ _ _ _ bc220 bs220
                )
              replace hw := hw (fun (c219 : Nat) (s219 : Nat) => c219 ≤ 729213 → s219 ≤ 6914059 → WS E p l e room_1 s m args below meth c 7 Q h176_ c219 s219 219 [] []) (by
                intro c219 s219 hv bc219 bs219
                replace hw := hv
                clear hv
                refine r_iconst (v := (0 : Int32)) C dL_law_219 (by decide) ?_
                exact (r_subk (hw bc219 bs219) trivial)
                )
              refine r_if_eq C 219 dL_law_199 (by decide) (fun z22 => ?_) (fun z22 => ?_)
              · replace hw := hw.1 z22
                exact (r_subk (hw bc176 bs176) trivial)
              · replace hw := hw.2 z22
                refine r_iload C dL_law_202 rfl ?_
                refine r_if_ne C 219 dL_law_204 (by decide) (fun z23 => ?_) (fun z23 => ?_)
                · replace hw := hw.2 z23
                  exact (r_subk (hw bc176 bs176) trivial)
                · replace hw := hw.1 z23
                  refine r_aload_n C dL_law_207 rfl rfl ?_
                  refine r_aload_n C dL_law_208 rfl rfl ?_
                  obtain ⟨k24, n24, hw⟩ := hw
                  obtain ⟨b25, d25, hw⟩ := hw
                  refine r_callS (As := [.ref q2, .ref q8]) (st := []) C (m_L_areAlike hl hw) v_L_areAlike w_705 rfl ⟨leb rfl, leb rfl⟩ ⟨b25, d25⟩ rfl (leb rfl) dL_law_209 (fun X h9 hx => False.elim hx.1) (kpI (K := fun hK sK => WS E p l e room_1 s m args below meth c 7 Q hK (c176 + k24) (s176 + n24) (209 + 3) [(1, .ref q2), (2, .ref q8), (3, .int t141_0), (4, .int v176_4), (5, .int v176_5)] sK) (fun x24 hv => ?_))
                  replace hw := hv
                  clear hv
                  refine r_if_eq C 219 dL_law_212 (by decide) (fun z26 => ?_) (fun z26 => ?_)
                  · replace hw := hw.1 z26
                    exact (r_subk (hw b25 d25) trivial)
                  · replace hw := hw.2 z26
                    refine r_iconst (v := (1 : Int32)) C dL_law_215 (by decide) ?_
                    refine r_goto C 220 dL_law_216 (by decide) ?_
                    exact (r_subk (hw b25 d25) trivial)
            · replace hw := hw.2 z21
              refine r_iload C dL_law_182 rfl ?_
              refine r_aload_n C dL_law_184 rfl rfl ?_
              refine r_iconst (v := (1 : Int32)) C dL_law_185 (by decide) ?_
              obtain ⟨k27, n27, hw⟩ := hw
              obtain ⟨b28, d28, hw⟩ := hw
              obtain ⟨g29, hw⟩ := hw
              refine r_callV (As := [.int (1 : Int32)]) (st := [.int v176_4]) C (m_X5_takt hl hw) v_X5_takt w_149 K7 g29 (by decide) ob7 rfl ⟨leb rfl, leb rfl⟩ ⟨b28, d28⟩ rfl (leb rfl) dL_law_186 (fun X h9 hx => False.elim hx) (kkI (K := fun hK sK => WS E p l e room_1 s m args below meth c 7 Q hK (c176 + k27) (s176 + n27) (186 + 3) [(1, .ref q2), (2, .ref q8), (3, .int t141_0), (4, .int v176_4), (5, .int v176_5)] sK) (fun x27 h27 hv => ?_))
              replace hw := hv
              clear hv
              refine r_isub C dL_law_189 ?_
              refine r_istore C dL_law_190 (by decide) [(1, .ref q2), (2, .ref q8), (3, .int t141_0), (4, .int (v176_4 - x27)), (5, .int v176_5)] ⟨rfl, rfl, rfl, rfl, rfl, trivial⟩ ?_
              refine r_iinc C (v176_5 + (1 : Int32)) dL_law_192 rfl rfl (by decide) [(1, .ref q2), (2, .ref q8), (3, .int t141_0), (4, .int (v176_4 - x27)), (5, .int (v176_5 + (1 : Int32)))] ⟨rfl, rfl, rfl, rfl, rfl, trivial⟩ ?_
              refine r_goto C 176 dL_law_195 (by decide) ?_
              exact (r_subk (hw b28 d28) ⟨rfl, rfl, rfl, rfl, rfl, trivial⟩)
            )
          exact (r_subk (hw bc173 bs173) ⟨rfl, rfl, rfl, rfl, rfl, trivial⟩)
          )
        refine r_if_lt C 173 dL_law_154 (by decide) (fun z30 => ?_) (fun z30 => ?_)
        · replace hw := hw.1 z30
          exact (r_subk (hw b20 d20) ⟨rfl, rfl, rfl, rfl, trivial⟩)
        · replace hw := hw.2 z30
          refine r_aload_n C dL_law_157 rfl rfl ?_
          obtain ⟨g32, hw⟩ := hw
          refine r_callV (As := []) (st := []) C (m_X5_images hl hw) v_X5_images w_511 K7 g32 (by decide) ob7 rfl ⟨leb rfl, leb rfl⟩ ⟨b20, d20⟩ rfl (leb rfl) dL_law_158 (fun _ _ z => z.elim) (kpI (K := fun hK sK => WS E p l e room_1 s m args below meth c 7 Q hK (c141 + k16 + 1 + 0) (s141 + n16 + 6 + 0) (158 + 3) [(1, .ref q2), (2, .ref q8), (3, .int t141_0), (4, .int x16)] sK) (fun x31 hv => ?_))
          replace hw := hv
          clear hv
          refine r_bipush (v := (40 : Int32)) C dL_law_161 (by decide) ?_
          refine r_icmp_ge C 173 dL_law_163 (by decide) (fun z33 => ?_) (fun z33 => ?_)
          · replace hw := hw.1 z33
            exact (r_subk (hw b20 d20) ⟨rfl, rfl, rfl, rfl, trivial⟩)
          · replace hw := hw.2 z33
            refine r_aload_n C dL_law_166 rfl rfl ?_
            refine r_iconst (v := (0 : Int32)) C dL_law_167 (by decide) ?_
            obtain ⟨b35, d35, hw⟩ := hw
            refine r_callV (As := [.int (0 : Int32)]) (st := []) C (m_X5_build hl hw) v_X5_build w_443 K7 g32 (by decide) ob7 rfl ⟨leb rfl, leb rfl⟩ ⟨b35, d35⟩ rfl (leb rfl) dL_law_168 (fun X h9 hx => False.elim hx) (kkI (K := fun hK sK => WS E p l e room_1 s m args below meth c 7 Q hK (c141 + k16 + 1 + 0 + 4) (s141 + n16 + 6 + 0 + 68) (168 + 3) [(1, .ref q2), (2, .ref q8), (3, .int t141_0), (4, .int x16)] sK) (fun x34 h34 hv => ?_))
            replace hw := hv
            clear hv
            refine r_istore C dL_law_171 (by decide) [(1, .ref q2), (2, .ref q8), (3, .int t141_0), (4, .int x16)] ⟨rfl, rfl, rfl, rfl, trivial⟩ ?_
            exact (r_subk (hw b35 d35) ⟨rfl, rfl, rfl, rfl, trivial⟩)
        )
      replace hw := hw (fun (h136_ : Hp) (c136 : Nat) (s136 : Nat) => c136 ≤ 729213 → s136 ≤ 6914059 → WS E p l e room_1 s m args below meth c 7 Q h136_ c136 s136 136 [(1, .ref q2), (2, .ref q8)] []) (by
        intro h136_ c136 s136 hv bc136 bs136
        replace hw := hv
        clear hv
        refine r_iconst (v := (1 : Int32)) C dL_law_136 (by decide) ?_
        refine r_goto C 141 dL_law_137 (by decide) ?_
        exact (r_subk (hw bc136 bs136) ⟨rfl, rfl, trivial⟩)
        )
      refine r_if_lt C 136 dL_law_111 (by decide) (fun z36 => ?_) (fun z36 => ?_)
      · replace hw := hw.1 z36
        exact (r_subk (hw b15 d15) ⟨rfl, rfl, trivial⟩)
      · replace hw := hw.2 z36
        refine r_aload_n C dL_law_114 rfl rfl ?_
        obtain ⟨g38, hw⟩ := hw
        refine r_callV (As := []) (st := []) C (m_X5_images hl hw) v_X5_images w_511 K7 g38 (by decide) ob7 rfl ⟨leb rfl, leb rfl⟩ ⟨b15, d15⟩ rfl (leb rfl) dL_law_115 (fun _ _ z => z.elim) (kpI (K := fun hK sK => WS E p l e room_1 s m args below meth c 7 Q hK (c18 + 1 + 0) (s18 + 6 + 0) (115 + 3) [(0, .ref b), (1, .ref q2), (2, .ref q8), (3, .int v18_3)] sK) (fun x37 hv => ?_))
        replace hw := hv
        clear hv
        refine r_bipush (v := (40 : Int32)) C dL_law_118 (by decide) ?_
        refine r_icmp_eq C 136 dL_law_120 (by decide) (fun z39 => ?_) (fun z39 => ?_)
        · replace hw := hw.1 z39
          exact (r_subk (hw b15 d15) ⟨rfl, rfl, trivial⟩)
        · replace hw := hw.2 z39
          refine r_aload_n C dL_law_123 rfl rfl ?_
          refine r_iconst (v := (0 : Int32)) C dL_law_124 (by decide) ?_
          obtain ⟨b41, d41, hw⟩ := hw
          refine r_callV (As := [.int (0 : Int32)]) (st := []) C (m_X5_build hl hw) v_X5_build w_443 K7 g38 (by decide) ob7 rfl ⟨leb rfl, leb rfl⟩ ⟨b41, d41⟩ rfl (leb rfl) dL_law_125 (fun X h9 hx => False.elim hx) (kkI (K := fun hK sK => WS E p l e room_1 s m args below meth c 7 Q hK (c18 + 1 + 0 + 4) (s18 + 6 + 0 + 68) (125 + 3) [(0, .ref b), (1, .ref q2), (2, .ref q8), (3, .int v18_3)] sK) (fun x40 h40 hv => ?_))
          replace hw := hv
          clear hv
          refine r_aload_n C dL_law_128 rfl rfl ?_
          refine r_iconst (v := (0 : Int32)) C dL_law_129 (by decide) ?_
          obtain ⟨b43, d43, hw⟩ := hw
          obtain ⟨g44, hw⟩ := hw
          refine r_callV (As := [.int (0 : Int32)]) (st := [.int x40]) C (m_X5_build hl hw) v_X5_build w_443 K7 g44 (by decide) ob7 rfl ⟨leb rfl, leb rfl⟩ ⟨b43, d43⟩ rfl (leb rfl) dL_law_130 (fun X h9 hx => False.elim hx) (kkI (K := fun hK sK => WS E p l e room_1 s m args below meth c 7 Q hK (c18 + 1 + 0 + 4 + 4) (s18 + 6 + 0 + 68 + 68) (130 + 3) [(0, .ref b), (1, .ref q2), (2, .ref q8), (3, .int v18_3)] sK) (fun x42 h42 hv => ?_))
          replace hw := hv
          clear hv
          refine r_icmp_ne C 140 dL_law_133 (by decide) (fun z45 => ?_) (fun z45 => ?_)
          · replace hw := hw.2 z45
            refine r_iconst (v := (0 : Int32)) C dL_law_140 (by decide) ?_
            exact (r_subk (hw b43 d43) ⟨rfl, rfl, trivial⟩)
          · replace hw := hw.1 z45
            exact (r_subk (hw b43 d43) ⟨rfl, rfl, trivial⟩)
    · replace hw := hw.2 z13
      refine r_aload_n C dL_law_24 rfl rfl ?_
      refine r_iload_n C dL_law_25 rfl rfl ?_
      refine r_callS (As := [.ref b, .int v18_3]) (st := []) C (m_L_cell hl hw) v_L_cell w_515 rfl ⟨leb rfl, leb rfl⟩ ⟨bc18, bs18⟩ rfl (leb rfl) dL_law_26 (fun _ _ z => z.elim) (kpI (K := fun hK sK => WS E p l e room_1 s m args below meth c 7 Q hK (c18 + 0) (s18 + 0) (26 + 3) [(0, .ref b), (1, .ref q2), (2, .ref q8), (3, .int v18_3)] sK) (fun x46 hv => ?_))
      replace hw := hv
      clear hv
      refine r_istore C dL_law_29 (by decide) [(0, .ref b), (1, .ref q2), (2, .ref q8), (3, .int v18_3), (4, .int x46)] ⟨rfl, rfl, rfl, rfl, rfl, trivial⟩ ?_
      refine r_aload_n C dL_law_31 rfl rfl ?_
      obtain ⟨g48, hw⟩ := hw
      refine r_callV (As := []) (st := []) C (m_X5_takts hl hw) v_X5_takts w_439 K7 g48 (by decide) ob7 rfl ⟨leb rfl, leb rfl⟩ ⟨bc18, bs18⟩ rfl (leb rfl) dL_law_32 (fun _ _ z => z.elim) (kpI (K := fun hK sK => WS E p l e room_1 s m args below meth c 7 Q hK (c18 + 0 + 0) (s18 + 0 + 0) (32 + 3) [(0, .ref b), (1, .ref q2), (2, .ref q8), (3, .int v18_3), (4, .int x46)] sK) (fun x47 hv => ?_))
      replace hw := hv
      clear hv
      refine r_istore C dL_law_35 (by decide) [(0, .ref b), (1, .ref q2), (2, .ref q8), (3, .int v18_3), (4, .int x46), (5, .int x47)] ⟨rfl, rfl, rfl, rfl, rfl, rfl, trivial⟩ ?_
      refine r_aload_n C dL_law_37 rfl rfl ?_
      refine r_iload C dL_law_38 rfl ?_
      obtain ⟨k49, n49, hw⟩ := hw
      obtain ⟨b50, d50, hw⟩ := hw
      refine r_callS (As := [.ref q2, .int x46]) (st := []) C (m_L_act hl hw) v_L_act w_526 rfl ⟨leb rfl, leb rfl⟩ ⟨b50, d50⟩ rfl (leb rfl) dL_law_40 (fun X h9 hx => False.elim hx) (kkI (K := fun hK sK => WS E p l e room_1 s m args below meth c 7 Q hK (c18 + 0 + 0 + k49) (s18 + 0 + 0 + n49) (40 + 3) [(0, .ref b), (1, .ref q2), (2, .ref q8), (3, .int v18_3), (4, .int x46), (5, .int x47)] sK) (fun x49 h49 hv => ?_))
      replace hw := hv
      clear hv
      refine r_istore C dL_law_43 (by decide) [(0, .ref b), (1, .ref q2), (2, .ref q8), (3, .int v18_3), (4, .int x46), (5, .int x47), (6, .int x49)] ⟨rfl, rfl, rfl, rfl, rfl, rfl, rfl, trivial⟩ ?_
      refine r_iload C dL_law_45 rfl ?_
      refine r_ldc C w_564 dL_law_47 ?_
      replace hw := hw (fun (h80_ : Hp) (c80 : Nat) (s80 : Nat) => c80 ≤ 729213 → s80 ≤ 6914059 → WS E p l e room_1 s m args below meth c 7 Q h80_ c80 s80 80 [] []) (by
        intro h80_ c80 s80 hv bc80 bs80
        replace hw := hv
        clear hv
        refine r_iconst (v := (0 : Int32)) C dL_law_80 (by decide) ?_
        exact hw.elim
        )
      replace hw := hw (fun (h63_ : Hp) (c63 : Nat) (s63 : Nat) => c63 ≤ 729213 → s63 ≤ 6914059 → WS E p l e room_1 s m args below meth c 7 Q h63_ c63 s63 63 [(0, .ref b), (1, .ref q2), (2, .ref q8), (3, .int v18_3), (5, .int x47)] []) (by
        intro h63_ c63 s63 hv bc63 bs63
        replace hw := hv
        clear hv
        refine r_aload_n C dL_law_63 rfl rfl ?_
        refine r_aload_n C dL_law_64 rfl rfl ?_
        obtain ⟨k51, n51, hw⟩ := hw
        obtain ⟨b52, d52, hw⟩ := hw
        refine r_callS (As := [.ref q2, .ref q8]) (st := []) C (m_L_areAlike hl hw) v_L_areAlike w_705 rfl ⟨leb rfl, leb rfl⟩ ⟨b52, d52⟩ rfl (leb rfl) dL_law_65 (fun X h9 hx => False.elim hx.1) (kpI (K := fun hK sK => WS E p l e room_1 s m args below meth c 7 Q hK (c63 + k51) (s63 + n51) (65 + 3) [(0, .ref b), (1, .ref q2), (2, .ref q8), (3, .int v18_3), (5, .int x47)] sK) (fun x51 hv => ?_))
        replace hw := hv
        clear hv
        refine r_if_eq C 80 dL_law_68 (by decide) (fun z53 => ?_) (fun z53 => ?_)
        · replace hw := hw.1 z53
          exact (r_subk (hw b52 d52) trivial)
        · replace hw := hw.2 z53
          refine r_aload_n C dL_law_71 rfl rfl ?_
          obtain ⟨g55, hw⟩ := hw
          refine r_callV (As := []) (st := []) C (m_X5_takts hl hw) v_X5_takts w_439 K7 g55 (by decide) ob7 rfl ⟨leb rfl, leb rfl⟩ ⟨b52, d52⟩ rfl (leb rfl) dL_law_72 (fun _ _ z => z.elim) (kpI (K := fun hK sK => WS E p l e room_1 s m args below meth c 7 Q hK (c63 + k51 + 0) (s63 + n51 + 0) (72 + 3) [(0, .ref b), (1, .ref q2), (2, .ref q8), (3, .int v18_3), (5, .int x47)] sK) (fun x54 hv => ?_))
          replace hw := hv
          clear hv
          refine r_iload C dL_law_75 rfl ?_
          refine r_icmp_ge C 82 dL_law_77 (by decide) (fun z56 => ?_) (fun z56 => ?_)
          · replace hw := hw.1 z56
            refine r_iload_n C dL_law_82 rfl rfl ?_
            refine r_bipush (v := (10 : Int32)) C dL_law_83 (by decide) ?_
            obtain ⟨q57, hw⟩ := hw
            refine r_irem C dL_law_85 q57 ?_
            refine r_bipush (v := (9 : Int32)) C dL_law_86 (by decide) ?_
            replace hw := hw (fun (c100 : Nat) (s100 : Nat) => c100 ≤ 729213 → s100 ≤ 6914059 → WS E p l e room_1 s m args below meth c 7 Q h63_ c100 s100 100 [(0, .ref b), (1, .ref q2), (2, .ref q8), (3, .int v18_3)] []) (by
              intro c100 s100 hv bc100 bs100
              replace hw := hv
              clear hv
              refine r_iinc C (v18_3 + (1 : Int32)) dL_law_100 rfl rfl (by decide) [(0, .ref b), (1, .ref q2), (2, .ref q8), (3, .int (v18_3 + (1 : Int32)))] ⟨rfl, rfl, rfl, rfl, trivial⟩ ?_
              refine r_goto C 18 dL_law_103 (by decide) ?_
              exact (r_subk (hw bc100 bs100) ⟨rfl, rfl, rfl, rfl, trivial⟩)
              )
            refine r_icmp_ne C 100 dL_law_88 (by decide) (fun z58 => ?_) (fun z58 => ?_)
            · replace hw := hw.2 z58
              exact (r_subk (hw b52 d52) ⟨rfl, rfl, rfl, rfl, trivial⟩)
            · replace hw := hw.1 z58
              refine r_aload_n C dL_law_91 rfl rfl ?_
              obtain ⟨k59, n59, hw⟩ := hw
              obtain ⟨b60, d60, hw⟩ := hw
              refine r_callS (As := [.ref q2]) (st := []) C (m_L_isLineSo hl hw) v_L_isLineSo w_751 rfl ⟨leb rfl, leb rfl⟩ ⟨b60, d60⟩ rfl (leb rfl) dL_law_92 (fun X h9 hx => False.elim hx.1) (kpI (K := fun hK sK => WS E p l e room_1 s m args below meth c 7 Q hK (c63 + k51 + 0 + k59) (s63 + n51 + 0 + n59) (92 + 3) [(0, .ref b), (1, .ref q2), (2, .ref q8), (3, .int v18_3), (5, .int x47)] sK) (fun x59 hv => ?_))
              replace hw := hv
              clear hv
              refine r_if_ne C 100 dL_law_95 (by decide) (fun z61 => ?_) (fun z61 => ?_)
              · replace hw := hw.2 z61
                exact (r_subk (hw b60 d60) ⟨rfl, rfl, rfl, rfl, trivial⟩)
              · replace hw := hw.1 z61
                refine r_iconst (v := (0 : Int32)) C dL_law_98 (by decide) ?_
                exact hw.elim
          · replace hw := hw.2 z56
            exact (r_subk (hw b52 d52) trivial)
        )
      refine r_icmp_eq C 63 dL_law_49 (by decide) (fun z62 => ?_) (fun z62 => ?_)
      · replace hw := hw.1 z62
        exact (r_subk (hw b50 d50) ⟨rfl, rfl, rfl, rfl, rfl, trivial⟩)
      · replace hw := hw.2 z62
        refine r_aload_n C dL_law_52 rfl rfl ?_
        refine r_iload C dL_law_53 rfl ?_
        obtain ⟨k63, n63, hw⟩ := hw
        obtain ⟨b64, d64, hw⟩ := hw
        refine r_callS (As := [.ref q8, .int x46]) (st := []) C (m_L_act hl hw) v_L_act w_526 rfl ⟨leb rfl, leb rfl⟩ ⟨b64, d64⟩ rfl (leb rfl) dL_law_55 (fun X h9 hx => False.elim hx) (kkI (K := fun hK sK => WS E p l e room_1 s m args below meth c 7 Q hK (c18 + 0 + 0 + k49 + k63) (s18 + 0 + 0 + n49 + n63) (55 + 3) [(0, .ref b), (1, .ref q2), (2, .ref q8), (3, .int v18_3), (4, .int x46), (5, .int x47), (6, .int x49)] sK) (fun x63 h63 hv => ?_))
        replace hw := hv
        clear hv
        refine r_iload C dL_law_58 rfl ?_
        refine r_icmp_ne C 80 dL_law_60 (by decide) (fun z65 => ?_) (fun z65 => ?_)
        · replace hw := hw.2 z65
          exact (r_subk (hw b64 d64) trivial)
        · replace hw := hw.1 z65
          exact (r_subk (hw b64 d64) ⟨rfl, rfl, rfl, rfl, rfl, trivial⟩)
    )
  exact (r_subk (hw b12 d12) ⟨rfl, rfl, rfl, rfl, trivial⟩)
