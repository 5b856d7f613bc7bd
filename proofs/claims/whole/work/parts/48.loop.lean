/-! the law's loop -/
theorem and31 (x : Int32) : ∃ k, k < 32 ∧ x &&& 31 = nI k := by
  refine ⟨(x &&& 31).toBitVec.toNat, ?_, (xN _).symm⟩
  have h : (x &&& 31).toBitVec = x.toBitVec &&& 31#32 := by rw [Int32.toBitVec_and]; rfl
  rw [h, BitVec.toNat_and]
  have : x.toBitVec.toNat &&& (31#32).toNat ≤ (31#32).toNat := Nat.and_le_right
  have e : (31#32).toNat = 31 := rfl
  omega
theorem sub6 : ∀ L, L < 6 → nI L - 6 < nI 0 := by decide
theorem GS_mono {dE x m9 o P P' C : Nat} {h : Hp} (g : GS dE x m9 o h P C) (hp : P ≤ P') : GS dE x m9 o h P' C := by
  obtain ⟨ad, σ, r, we, a, b, c, d, e⟩ := g
  exact ⟨ad, σ, r, we, a, b, c, Nat.le_trans d hp, e⟩
set_option maxHeartbeats 4000000 in
set_option maxRecDepth 100000 in
theorem law_loop {E : Ev} {p : Program} {l : Launch} {e : Env} {s : State} {m : MethodId} {args : Array Value} {below : List Frame} {meth : Method} {c : Code} {Q : State → Prop} {nm : String} {tb : List ExceptionTableEntry} (C : CX E p l s m args meth c cL_law 7 "TaktLineLaw" nm (some .boolean) tb) (hl : l.stackTraces = false) {b L : Nat} {xs : Nat → Int32} (hX : va_X b L xs s s.heap) (hbl : b < s.heap.size) (hbb : b < eB E) (hL : L ≤ 3072) {x m9 o : Nat} (hend : ∀ h cc ss i, cc ≤ 601024 → ss ≤ 7293034 → WS E p l e room_1 s m args below meth c 7 Q h cc ss 1563 [(0, .ref b), (1, .ref x), (2, .ref m9), (3, .ref o), (4, .int i)] []) :
    ∀ d j h Ca cc ss, L < 6 * (j + d) + 6 → 6 * j ≤ L → GS (eE E) x m9 o h (400 * j) Ca → cc ≤ 100 + 1000 * j → ss ≤ 3000 + 9100 * j + 4 * Ca → WS E p l e room_1 s m args below meth c 7 Q h cc ss 23 [(0, .ref b), (1, .ref x), (2, .ref m9), (3, .ref o), (4, .int (nI (6 * j)))] [] := by
  intro d
  induction d with
  | zero =>
    intro j h Ca cc ss hd hj G h1 h2
    have cb : Ca ≤ 10 + 2 * (400 * j) := by
      obtain ⟨ad, σ, r, we, -, -, -, hP, hC⟩ := G
      have := we.1.1.2.2.2.1.2.2
      omega
    refine r_iload C dL_law_23 rfl ?_
    refine r_aload_n C dL_law_25 rfl rfl ?_
    refine r_slen C hX hbl hbb dL_law_26 ?_
    refine r_bipush (v := (6 : Int32)) C dL_law_27 (by decide) ?_
    refine r_isub C dL_law_29 ?_
    refine r_icmp_gt C 1563 dL_law_30 (by decide) (fun z => hend _ _ _ _ (by omega) (by omega)) (fun z => ?_)
    exfalso
    refine z ?_
    by_cases q : L < 6
    · exact ng_lt (sub6 L q) (by omega)
    · have : nI L - 6 = nI (L - 6) := nI_subN (b := 6) (by omega)
      rw [this]
      exact nI_lt (by omega) (by omega)
  | succ d ih =>
    intro j h Ca cc ss hd hj G h1 h2
    have cb : Ca ≤ 10 + 2 * (400 * j) := by
      obtain ⟨ad, σ, r, we, -, -, -, hP, hC⟩ := G
      have := we.1.1.2.2.2.1.2.2
      omega
    refine r_iload C dL_law_23 rfl ?_
    refine r_aload_n C dL_law_25 rfl rfl ?_
    refine r_slen C hX hbl hbb dL_law_26 ?_
    refine r_bipush (v := (6 : Int32)) C dL_law_27 (by decide) ?_
    refine r_isub C dL_law_29 ?_
    refine r_icmp_gt C 1563 dL_law_30 (by decide) (fun z => hend _ _ _ _ (by omega) (by omega)) (fun z => ?_)
    have hn5 : 6 * j + 5 < L := by
      by_cases q : L < 6
      · exact absurd (ng_lt (sub6 L q) (by omega)) z
      · have e6 : nI L - 6 = nI (L - 6) := nI_subN (b := 6) (by omega)
        rw [e6] at z
        by_cases y : 6 * j + 5 < L
        · exact y
        · exact absurd (nI_lt (by omega) (by omega)) z
    have j511 : j ≤ 511 := by omega
    have bP : 400 * j < 10000000 := by omega
    have hcc : cc + 1000 ≤ 601024 := by omega
    have hms : 3000 + 9100 * j + 9100 + 4 * (10 + 2 * (400 * j + 400)) ≤ 7293034 := by omega
    have bc : cc ≤ 601024 := by omega
    have bs : ss ≤ 7293034 := by omega
    have hss : ss ≤ (3000 + 9100 * j) + 4 * Ca := h2
    have e400 : 400 * j + 400 = 400 * (j + 1) := by omega
    have hJ : ∀ h' c' s' C', GS (eE E) x m9 o h' (400 * j + 400) C' → c' ≤ cc + 1000 → s' ≤ (3000 + 9100 * j) + 9100 + 4 * C' → (c' ≤ 601024 → s' ≤ 7293034 → WS E p l e room_1 s m args below meth c 7 Q h' c' s' 1557 [(0, .ref b), (1, .ref x), (2, .ref m9), (3, .ref o), (4, .int (nI (6 * j)))] []) := by
      intro h' c' s' C' g hc hs _ _
      rw [e400] at g
      have ei : nI (6 * j) + Int32.ofInt 6 = nI (6 * (j + 1)) := by
        have : Int32.ofInt 6 = nI 6 := by decide
        rw [this, nI_add]
        congr 1
      refine r_iinc C (nI (6 * (j + 1))) dL_law_1557 rfl ei (by decide) [(0, .ref b), (1, .ref x), (2, .ref m9), (3, .ref o), (4, .int (nI (6 * (j + 1))))] ⟨rfl, rfl, rfl, rfl, rfl, trivial⟩ ?_
      refine r_goto C 23 dL_law_1560 (by decide) ?_
      exact ih (j + 1) h' C' c' s' (by omega) (by omega) g (by omega) (by omega)
    refine r_aload_n C dL_law_33 rfl rfl ?_
    refine r_iload C dL_law_34 rfl ?_
    refine a_S C hX hbl hbb (j := 6 * j) rfl (by omega) (by omega) dL_law_36 ?_
    refine r_bipush (v := (31 : Int32)) C dL_law_37 (by decide) ?_
    refine r_iand C dL_law_39 ?_
    obtain ⟨k, hk, ek⟩ := and31 (xs (6 * j))
    by_cases k0 : k = 0
    · rw [ek, k0]
      refine r_tableIn C 160 dL_law_40 (by decide) (by decide) rfl (by decide) ?_
      exact mc_law0 C hl hX hbl hbb bc bs (k_law0 G bP hL hn5 hcc hss hms hJ)
    by_cases k1 : k = 1
    · rw [ek, k1]
      refine r_tableIn C 260 dL_law_40 (by decide) (by decide) rfl (by decide) ?_
      exact mc_law1 C hl hX hbl hbb bc bs (k_law1 G bP hL hn5 hcc hss hms hJ)
    by_cases k2 : k = 2
    · rw [ek, k2]
      refine r_tableIn C 340 dL_law_40 (by decide) (by decide) rfl (by decide) ?_
      exact mc_law2 C hl hX hbl hbb bc bs (k_law2 G bP hL hn5 hcc hss hms hJ)
    by_cases k3 : k = 3
    · rw [ek, k3]
      refine r_tableIn C 396 dL_law_40 (by decide) (by decide) rfl (by decide) ?_
      exact mc_law3 C hl hX hbl hbb bc bs (k_law3 G bP hL hn5 hcc hss hms hJ)
    by_cases k4 : k = 4
    · rw [ek, k4]
      refine r_tableIn C 452 dL_law_40 (by decide) (by decide) rfl (by decide) ?_
      exact mc_law4 C hl hX hbl hbb bc bs (k_law4 G bP hL hn5 hcc hss hms hJ)
    by_cases k5 : k = 5
    · rw [ek, k5]
      refine r_tableIn C 508 dL_law_40 (by decide) (by decide) rfl (by decide) ?_
      exact mc_law5 C hl hX hbl hbb bc bs (k_law5 G bP hL hn5 hcc hss hms hJ)
    by_cases k6 : k = 6
    · rw [ek, k6]
      refine r_tableIn C 564 dL_law_40 (by decide) (by decide) rfl (by decide) ?_
      exact mc_law6 C hl hX hbl hbb bc bs (k_law6 G bP hL hn5 hcc hss hms hJ)
    by_cases k7 : k = 7
    · rw [ek, k7]
      refine r_tableIn C 627 dL_law_40 (by decide) (by decide) rfl (by decide) ?_
      exact mc_law7 C hl hX hbl hbb bc bs (k_law7 G bP hL hn5 hcc hss hms hJ)
    by_cases k8 : k = 8
    · rw [ek, k8]
      refine r_tableIn C 640 dL_law_40 (by decide) (by decide) rfl (by decide) ?_
      exact mc_law8 C hl hX hbl hbb bc bs (k_law8 G bP hL hn5 hcc hss hms hJ)
    by_cases k9 : k = 9
    · rw [ek, k9]
      refine r_tableIn C 696 dL_law_40 (by decide) (by decide) rfl (by decide) ?_
      exact mc_law9 C hl hX hbl hbb bc bs (k_law9 G bP hL hn5 hcc hss hms hJ)
    by_cases k10 : k = 10
    · rw [ek, k10]
      refine r_tableIn C 752 dL_law_40 (by decide) (by decide) rfl (by decide) ?_
      exact mc_law10 C hl hX hbl hbb bc bs (k_law10 G bP hL hn5 hcc hss hms hJ)
    by_cases k11 : k = 11
    · rw [ek, k11]
      refine r_tableIn C 808 dL_law_40 (by decide) (by decide) rfl (by decide) ?_
      exact mc_law11 C hl hX hbl hbb bc bs (k_law11 G bP hL hn5 hcc hss hms hJ)
    by_cases k12 : k = 12
    · rw [ek, k12]
      refine r_tableIn C 864 dL_law_40 (by decide) (by decide) rfl (by decide) ?_
      exact mc_law12 C hl hX hbl hbb bc bs (k_law12 G bP hL hn5 hcc hss hms hJ)
    by_cases k13 : k = 13
    · rw [ek, k13]
      refine r_tableIn C 920 dL_law_40 (by decide) (by decide) rfl (by decide) ?_
      exact mc_law13 C hl hX hbl hbb bc bs (k_law13 G bP hL hn5 hcc hss hms hJ)
    by_cases k14 : k = 14
    · rw [ek, k14]
      refine r_tableIn C 988 dL_law_40 (by decide) (by decide) rfl (by decide) ?_
      exact mc_law14 C hl hX hbl hbb bc bs (k_law14 G bP hL hn5 hcc hss hms hJ)
    by_cases k15 : k = 15
    · rw [ek, k15]
      refine r_tableIn C 1056 dL_law_40 (by decide) (by decide) rfl (by decide) ?_
      exact mc_law15 C hl hX hbl hbb bc bs (k_law15 G bP hL hn5 hcc hss hms hJ)
    by_cases k16 : k = 16
    · rw [ek, k16]
      refine r_tableIn C 1069 dL_law_40 (by decide) (by decide) rfl (by decide) ?_
      exact mc_law16 C hl hX hbl hbb bc bs (k_law16 G bP hL hn5 hcc hss hms hJ)
    by_cases k17 : k = 17
    · rw [ek, k17]
      refine r_tableIn C 1125 dL_law_40 (by decide) (by decide) rfl (by decide) ?_
      exact mc_law17 C hl hX hbl hbb bc bs (k_law17 G bP hL hn5 hcc hss hms hJ)
    by_cases k18 : k = 18
    · rw [ek, k18]
      refine r_tableIn C 1200 dL_law_40 (by decide) (by decide) rfl (by decide) ?_
      exact mc_law18 C hl hX hbl hbb bc bs (k_law18 G bP hL hn5 hcc hss hms hJ)
    by_cases k19 : k = 19
    · rw [ek, k19]
      refine r_tableIn C 1268 dL_law_40 (by decide) (by decide) rfl (by decide) ?_
      exact mc_law19 C hl hX hbl hbb bc bs (k_law19 G bP hL hn5 hcc hss hms hJ)
    by_cases k20 : k = 20
    · rw [ek, k20]
      refine r_tableIn C 1324 dL_law_40 (by decide) (by decide) rfl (by decide) ?_
      exact mc_law20 C hl hX hbl hbb bc bs (k_law20 G bP hL hn5 hcc hss hms hJ)
    by_cases k21 : k = 21
    · rw [ek, k21]
      refine r_tableIn C 1392 dL_law_40 (by decide) (by decide) rfl (by decide) ?_
      exact mc_law21 C hl hX hbl hbb bc bs (k_law21 G bP hL hn5 hcc hss hms hJ)
    by_cases k22 : k = 22
    · rw [ek, k22]
      refine r_tableIn C 1405 dL_law_40 (by decide) (by decide) rfl (by decide) ?_
      exact mc_law22 C hl hX hbl hbb bc bs (k_law22 G bP hL hn5 hcc hss hms hJ)
    by_cases k23 : k = 23
    · rw [ek, k23]
      refine r_tableIn C 1468 dL_law_40 (by decide) (by decide) rfl (by decide) ?_
      exact mc_law23 C hl hX hbl hbb bc bs (k_law23 G bP hL hn5 hcc hss hms hJ)
    by_cases k24 : k = 24
    · rw [ek, k24]
      refine r_tableIn C 1531 dL_law_40 (by decide) (by decide) rfl (by decide) ?_
      exact mc_law24 C hl hX hbl hbb bc bs (k_law24 G bP hL hn5 hcc hss hms hJ)
    by_cases k25 : k = 25
    · rw [ek, k25]
      refine r_tableIn C 1544 dL_law_40 (by decide) (by decide) rfl (by decide) ?_
      exact mc_law25 C hl hX hbl hbb bc bs (k_law25 G bP hL hn5 hcc hss hms hJ)
    rw [ek]
    refine r_tableOut C 1557 dL_law_40 (Or.inr ?_) (by decide) ?_
    · rw [nI_toInt (by omega)]
      omega
    · exact hJ h cc ss Ca (GS_mono G (by omega)) (by omega) (by omega) bc bs
/-! the law's beginning -/
set_option maxHeartbeats 4000000 in
set_option maxRecDepth 100000 in
theorem law_begin {E : Ev} {p : Program} {l : Launch} {e : Env} {s : State} {m : MethodId} {args : Array Value} {below : List Frame} {meth : Method} {c : Code} {Q : State → Prop} {nm : String} {tb : List ExceptionTableEntry} (C : CX E p l s m args meth c cL_law 7 "TaktLineLaw" nm (some .boolean) tb) (hl : l.stackTraces = false) {b L : Nat} {xs : Nat → Int32} (hX : va_X b L xs s s.heap) (hbl : b < s.heap.size) (hbb : b < eB E) (hL : L ≤ 3072) (hend : ∀ x m9 o h cc ss i, cc ≤ 601024 → ss ≤ 7293034 → WS E p l e room_1 s m args below meth c 7 Q h cc ss 1563 [(0, .ref b), (1, .ref x), (2, .ref m9), (3, .ref o), (4, .int i)] []) :
    WS E p l e room_1 s m args below meth c 7 Q (hp0 (eE E)) 0 0 0 [(0, .ref b)] [] := by
  refine r_new (t := 7) C K7 w_77 w_78 w_55 (by decide +kernel) ob7 (by decide) (leb rfl) (leb rfl) dL_law_0 (fun q1 z1 => ?_)
  refine r_dup C dL_law_3 rfl ?_
  have r0 : RR (eE E) (fun _ _ => eE E) (iniP [(27, 0)] [] 0) (iniP [] [] 0) (hp0 (eE E)) := RR_ini
  obtain ⟨ad1, r1, f1, o1⟩ := n_new (t := 7) (i := 0) (n := 0) r0 z1 (by decide) (by decide) rfl (fun e => by cases e) (fun j _ => by simp) (fun e => by omega) (fun e => by cases e) (fun e => by cases e) (by decide)
  have w1 : wp_X5_init (eE E) 17 73 (sN (hp0 (eE E)) q1 7 0) q1 (fun h => ∃ ad', ad' 7 0 = q1 ∧ RR (eE E) ad' (iniP (kA 10 iAL) (kB 10 iBL) 10) (iniP [] [] 0) h) := by
    rw [← f1]
    rw [← f1] at r1
    exact p_init r1 (Nat.le_refl _) (Nat.le_refl _) (fun ad' h' a r' => ⟨ad', a, r'⟩)
  refine r_callI (As := []) (st := [.ref q1]) C (m_X5_init hl w1) v_X5_init w_79 rfl ⟨leb rfl, leb rfl⟩ ⟨leb rfl, leb rfl⟩ rfl (leb rfl) dL_law_4 (fun _ _ z => z.elim) (kkV (K := fun hK sK => WS E p l e room_1 s m args below meth c 7 Q hK (0 + 1 + 17) (0 + 10 + 73) (4 + 3) [(0, .ref b)] sK) (fun h5 hv => ?_))
  obtain ⟨ad2, a7, r2⟩ := hv
  refine r_astore_n C dL_law_7 rfl (by decide) [(0, .ref b), (1, .ref q1)] ⟨rfl, rfl, trivial⟩ ?_
  refine r_new (t := 8) C K8 w_807 w_808 w_60 (by decide +kernel) ob8 (by decide) (leb rfl) (leb rfl) dL_law_8 (fun q2 z2 => ?_)
  refine r_dup C dL_law_11 rfl ?_
  obtain ⟨ad3, r3, f3, o3⟩ := n_new (t := 8) (i := 0) (n := 0) r2 z2 (fun z => absurd ((kA_mem (by decide) 10).mp z) (by decide)) (by decide) rfl (fun e => by cases e) (fun j _ z => absurd ((kB_mem (by decide) 10).mp z) (by simp [iBL])) (fun e => by omega) (fun _ j mj => by
    unfold ms
    rcases isM_cases mj with rfl | rfl | rfl | rfl | rfl | rfl | rfl | rfl | rfl <;> exact ipx (by decide) (by decide) (by decide)) (fun e => by cases e) (by decide)
  have b7 : ad3 7 0 = q1 := (o3 _ _ (fun z => by cases z.1)).trans a7
  have w2 : wp_X6_init (sN h5 q2 8 0) q2 (fun h => ∃ ad', ad' 7 0 = q1 ∧ ad' 8 0 = q2 ∧ RR (eE E) ad' (iniP ((56, 0) :: (55, 0) :: (54, 0) :: (50, 0) :: (49, 0) :: (48, 0) :: (47, 0) :: (46, 0) :: (45, 0) :: (44, 0) :: (43, 0) :: (42, 0) :: (41, 0) :: (39, 0) :: (38, 0) :: (37, 0) :: (36, 0) :: (34, 0) :: (33, 0) :: (32, 0) :: (31, 0) :: (8, 0) :: kA 10 iAL) ((8, 26) :: (8, 25) :: (8, 24) :: (8, 20) :: (8, 19) :: (8, 18) :: (8, 17) :: (8, 16) :: (8, 15) :: (8, 14) :: (8, 13) :: (8, 12) :: (8, 11) :: (8, 9) :: (8, 8) :: (8, 7) :: (8, 6) :: (8, 4) :: (8, 3) :: (8, 2) :: (8, 1) :: kB 10 iBL) 10) (iniP [] [] 10) h) := by
    have y := q_init (post := fun h => ∃ ad', ad' 7 0 = q1 ∧ ad' 8 0 = q2 ∧ RR (eE E) ad' (iniP ((56, 0) :: (55, 0) :: (54, 0) :: (50, 0) :: (49, 0) :: (48, 0) :: (47, 0) :: (46, 0) :: (45, 0) :: (44, 0) :: (43, 0) :: (42, 0) :: (41, 0) :: (39, 0) :: (38, 0) :: (37, 0) :: (36, 0) :: (34, 0) :: (33, 0) :: (32, 0) :: (31, 0) :: (8, 0) :: kA 10 iAL) ((8, 26) :: (8, 25) :: (8, 24) :: (8, 20) :: (8, 19) :: (8, 18) :: (8, 17) :: (8, 16) :: (8, 15) :: (8, 14) :: (8, 13) :: (8, 12) :: (8, 11) :: (8, 9) :: (8, 8) :: (8, 7) :: (8, 6) :: (8, 4) :: (8, 3) :: (8, 2) :: (8, 1) :: kB 10 iBL) 10) (iniP [] [] 10) h) r3 (fun ad' h' a b r' => ⟨ad', a.trans b7, b.trans f3, r'⟩)
    rw [f3] at y
    exact y
  refine r_callI (As := []) (st := [.ref q2]) C (m_X6_init hl w2) v_X6_init w_809 rfl ⟨leb rfl, leb rfl⟩ ⟨leb rfl, leb rfl⟩ rfl (leb rfl) dL_law_12 (fun _ _ z => z.elim) (kkV (K := fun hK sK => WS E p l e room_1 s m args below meth c 7 Q hK (0 + 1 + 17 + 1 + 21) (0 + 10 + 73 + 30 + 2358) (12 + 3) [(0, .ref b), (1, .ref q1)] sK) (fun h6 hv => ?_))
  obtain ⟨ad4, c7, c8, r4⟩ := hv
  refine r_astore_n C dL_law_15 rfl (by decide) [(0, .ref b), (1, .ref q1), (2, .ref q2)] ⟨rfl, rfl, rfl, trivial⟩ ?_
  refine r_iconst (v := (1 : Int32)) C dL_law_16 (by decide) ?_
  refine r_newl (N := 1) C w_1092 (by decide) (by decide) (by decide) (leb rfl) (leb rfl) dL_law_17 (fun q3 z3 => ?_)
  refine r_astore_n C dL_law_19 rfl (by decide) [(0, .ref b), (1, .ref q1), (2, .ref q2), (3, .ref q3)] ⟨rfl, rfl, rfl, rfl, trivial⟩ ?_
  refine r_iconst (v := (0 : Int32)) C dL_law_20 (by decide) ?_
  refine r_istore C dL_law_21 (by decide) [(0, .ref b), (1, .ref q1), (2, .ref q2), (3, .ref q3), (4, .int (nI (6 * 0)))] ⟨rfl, rfl, rfl, rfl, rfl, trivial⟩ ?_
  exact law_loop C hl hX hbl hbb hL (hend q1 q2 q3) 512 0 _ 0 _ _ (by omega) (Nat.zero_le _) (GS_ini r4 z3 c7 c8 rfl rfl) (leb rfl) (leb rfl)
