/-! the law's cases -/
section KL
variable {dE L : Nat} {xs : Nat → Int32} {mc ms : Nat} {h : Hp} {x m9 o : Nat} {n cc ss P C S0 : Nat} {J : Hp → Nat → Nat → Prop}
theorem c_takt0 {ad : Nat → Nat → Nat} {y : Int32} (hx : NR y 1 20) {k1 n1 : Nat} (h1 : 1 ≤ k1) (h2 : 6 ≤ n1) {post : Int32 → Hp → Prop} {px : String → Hp → Prop} (hp : px XA h) : wp_X5_takt dE k1 n1 h (ad 7 0) y post px := by
  unfold wp_X5_takt
  exact fun K hK => ⟨fun _ => hK ⟨h1, h2, hp⟩, fun q => ⟨fun q2 => absurd q2 (ix_nle (NR_lt hx q)), fun _ => hK ⟨h1, h2, hp⟩⟩⟩
theorem k_law7 (G : GS dE x m9 o h P C) (bP : P < 10000000) (hL : L ≤ 3072) (hn : n + 5 < L) (hcc : cc + 1000 ≤ mc) (hss : ss ≤ S0 + 4 * C) (hms : S0 + 9100 + 4 * (10 + 2 * (P + 400)) ≤ ms) (hJ : ∀ h' c' s' C', GS dE x m9 o h' (P + 400) C' → c' ≤ cc + 1000 → s' ≤ S0 + 9100 + 4 * C' → J h' c' s') : wp_law7 dE L xs mc ms h x m9 o (nI n) cc ss J := by
  obtain ⟨ad, σ, r, we, rfl, rfl, rfl, hP, rfl⟩ := G
  have w := we.1.1.1
  have v := we.1.1.2.1
  have hC := we.1.1.2.2.2.1.2.2
  have c30 := v.2.2.2.2.1.2.1
  have l40 := v.2.2.2.2.1.1
  have i40 := v.2.2.2.2.1.2.2.1
  unfold wp_law7
  have fin : ∀ h' C', GS dE (ad 7 0) (ad 8 0) (ad 22 0) h' (P + 400) C' → σ 9 5 0 ≤ C' → J h' (cc + 0 + 0) (ss + 0 + 0) := fun h' C' g hC' => hJ h' _ _ C' g (by omega) (by omega)
  exact ⟨t_7 r w, c_takts r w ⟨t_8 r w, q_takts r w (fun h2 r2 => ⟨fun _ => fin _ _ (close0 r2 we hP rfl rfl rfl) (Nat.le_refl _), fun q => q rfl⟩)⟩⟩
theorem k_law15 (G : GS dE x m9 o h P C) (bP : P < 10000000) (hL : L ≤ 3072) (hn : n + 5 < L) (hcc : cc + 1000 ≤ mc) (hss : ss ≤ S0 + 4 * C) (hms : S0 + 9100 + 4 * (10 + 2 * (P + 400)) ≤ ms) (hJ : ∀ h' c' s' C', GS dE x m9 o h' (P + 400) C' → c' ≤ cc + 1000 → s' ≤ S0 + 9100 + 4 * C' → J h' c' s') : wp_law15 dE L xs mc ms h x m9 o (nI n) cc ss J := by
  obtain ⟨ad, σ, r, we, rfl, rfl, rfl, hP, rfl⟩ := G
  have w := we.1.1.1
  have v := we.1.1.2.1
  have hC := we.1.1.2.2.2.1.2.2
  have c30 := v.2.2.2.2.1.2.1
  have l40 := v.2.2.2.2.1.1
  have i40 := v.2.2.2.2.1.2.2.1
  unfold wp_law15
  have fin : ∀ h' C', GS dE (ad 7 0) (ad 8 0) (ad 22 0) h' (P + 400) C' → σ 9 5 0 ≤ C' → J h' (cc + 0 + 0) (ss + 0 + 0) := fun h' C' g hC' => hJ h' _ _ C' g (by omega) (by omega)
  exact ⟨t_7 r w, c_scrapped r w ⟨t_8 r w, q_scrapped r w (fun h2 r2 => ⟨fun _ => fin _ _ (close0 r2 we hP rfl rfl rfl) (Nat.le_refl _), fun q => q rfl⟩)⟩⟩
theorem k_law21 (G : GS dE x m9 o h P C) (bP : P < 10000000) (hL : L ≤ 3072) (hn : n + 5 < L) (hcc : cc + 1000 ≤ mc) (hss : ss ≤ S0 + 4 * C) (hms : S0 + 9100 + 4 * (10 + 2 * (P + 400)) ≤ ms) (hJ : ∀ h' c' s' C', GS dE x m9 o h' (P + 400) C' → c' ≤ cc + 1000 → s' ≤ S0 + 9100 + 4 * C' → J h' c' s') : wp_law21 dE L xs mc ms h x m9 o (nI n) cc ss J := by
  obtain ⟨ad, σ, r, we, rfl, rfl, rfl, hP, rfl⟩ := G
  have w := we.1.1.1
  have v := we.1.1.2.1
  have hC := we.1.1.2.2.2.1.2.2
  have c30 := v.2.2.2.2.1.2.1
  have l40 := v.2.2.2.2.1.1
  have i40 := v.2.2.2.2.1.2.2.1
  unfold wp_law21
  have fin : ∀ h' C', GS dE (ad 7 0) (ad 8 0) (ad 22 0) h' (P + 400) C' → σ 9 5 0 ≤ C' → J h' (cc + 0 + 0) (ss + 0 + 0) := fun h' C' g hC' => hJ h' _ _ C' g (by omega) (by omega)
  exact ⟨t_7 r w, c_images r w ⟨t_8 r w, q_images r w (fun h2 r2 => ⟨fun _ => fin _ _ (close0 r2 we hP rfl rfl rfl) (Nat.le_refl _), fun q => q rfl⟩)⟩⟩
theorem k_law24 (G : GS dE x m9 o h P C) (bP : P < 10000000) (hL : L ≤ 3072) (hn : n + 5 < L) (hcc : cc + 1000 ≤ mc) (hss : ss ≤ S0 + 4 * C) (hms : S0 + 9100 + 4 * (10 + 2 * (P + 400)) ≤ ms) (hJ : ∀ h' c' s' C', GS dE x m9 o h' (P + 400) C' → c' ≤ cc + 1000 → s' ≤ S0 + 9100 + 4 * C' → J h' c' s') : wp_law24 dE L xs mc ms h x m9 o (nI n) cc ss J := by
  obtain ⟨ad, σ, r, we, rfl, rfl, rfl, hP, rfl⟩ := G
  have w := we.1.1.1
  have v := we.1.1.2.1
  have hC := we.1.1.2.2.2.1.2.2
  have c30 := v.2.2.2.2.1.2.1
  have l40 := v.2.2.2.2.1.1
  have i40 := v.2.2.2.2.1.2.2.1
  unfold wp_law24
  have fin : ∀ h' C', GS dE (ad 7 0) (ad 8 0) (ad 22 0) h' (P + 400) C' → σ 9 5 0 ≤ C' → J h' (cc + 0 + 0) (ss + 0 + 0) := fun h' C' g hC' => hJ h' _ _ C' g (by omega) (by omega)
  exact ⟨t_7 r w, c_failed r w ⟨t_8 r w, q_failed r w (fun h2 r2 => ⟨fun _ => fin _ _ (close0 r2 we hP rfl rfl rfl) (Nat.le_refl _), fun q => q rfl⟩)⟩⟩
theorem k_law25 (G : GS dE x m9 o h P C) (bP : P < 10000000) (hL : L ≤ 3072) (hn : n + 5 < L) (hcc : cc + 1000 ≤ mc) (hss : ss ≤ S0 + 4 * C) (hms : S0 + 9100 + 4 * (10 + 2 * (P + 400)) ≤ ms) (hJ : ∀ h' c' s' C', GS dE x m9 o h' (P + 400) C' → c' ≤ cc + 1000 → s' ≤ S0 + 9100 + 4 * C' → J h' c' s') : wp_law25 dE L xs mc ms h x m9 o (nI n) cc ss J := by
  obtain ⟨ad, σ, r, we, rfl, rfl, rfl, hP, rfl⟩ := G
  have w := we.1.1.1
  have v := we.1.1.2.1
  have hC := we.1.1.2.2.2.1.2.2
  have c30 := v.2.2.2.2.1.2.1
  have l40 := v.2.2.2.2.1.1
  have i40 := v.2.2.2.2.1.2.2.1
  unfold wp_law25
  have fin : ∀ h' C', GS dE (ad 7 0) (ad 8 0) (ad 22 0) h' (P + 400) C' → σ 9 5 0 ≤ C' → J h' (cc + 0 + 0) (ss + 0 + 0) := fun h' C' g hC' => hJ h' _ _ C' g (by omega) (by omega)
  exact ⟨t_7 r w, c_atLarge r w v ⟨t_8 r w, q_atLarge r w v (fun h2 r2 => ⟨fun _ => fin _ _ (close0 r2 we hP rfl rfl rfl) (Nat.le_refl _), fun q => q rfl⟩)⟩⟩
theorem k_law3 (G : GS dE x m9 o h P C) (bP : P < 10000000) (hL : L ≤ 3072) (hn : n + 5 < L) (hcc : cc + 1000 ≤ mc) (hss : ss ≤ S0 + 4 * C) (hms : S0 + 9100 + 4 * (10 + 2 * (P + 400)) ≤ ms) (hJ : ∀ h' c' s' C', GS dE x m9 o h' (P + 400) C' → c' ≤ cc + 1000 → s' ≤ S0 + 9100 + 4 * C' → J h' c' s') : wp_law3 dE L xs mc ms h x m9 o (nI n) cc ss J := by
  obtain ⟨ad, σ, r, we, rfl, rfl, rfl, hP, rfl⟩ := G
  have w := we.1.1.1
  have v := we.1.1.2.1
  have hC := we.1.1.2.2.2.1.2.2
  have c30 := v.2.2.2.2.1.2.1
  have l40 := v.2.2.2.2.1.1
  have i40 := v.2.2.2.2.1.2.2.1
  unfold wp_law3 wp_L_units
  have fin : ∀ h' C', GS dE (ad 7 0) (ad 8 0) (ad 22 0) h' (P + 400) C' → σ 9 5 0 ≤ C' → J h' (cc + 1 + 0 + 0) (ss + 6 + 0 + 0) := fun h' C' g hC' => hJ h' _ _ C' g (by omega) (by omega)
  have g6 := we.1.2.1.2.2.2.2.2
  refine ⟨n + 1, nI_1 n, by omega, by omega, by omega, by omega, t_7 r w, ?_⟩
  rcases NL_or (N := σ 1 1 2) (by omega) (xs (n + 1)) with ⟨c, hc, e⟩ | q
  · rw [e]
    refine c_units2 r w v hc (wr1 r we.2.2 (fun h1 r1 => ⟨n + 1, nI_1 n, by omega, by omega, ?_⟩))
    rw [e]
    have w1 := (WW22 (k := (jn (nI (σ 5 c 3)).toInt64)) we.1).1.1
    have v1 : V (up σ 22 0 0 (jn (nI (σ 5 c 3)).toInt64)) 22 0 := (V_up (by decide) _ _).mpr we.2.2
    exact ⟨t_8 r1 w1, q_units1 r1 w1 v hc (fun h2 r2 => tail1 r2 w1 v1 up_eq up_eq (fin _ _ (close r2 (ST_refl we) hP (Nat.zero_le _) rfl rfl rfl) (Nat.le_refl _)))⟩
  · exact c_units1 r w v q ⟨rfl, n + 1, nI_1 n, by omega, by omega, t_8 r w, q_units0 r w v q (fun h2 r2 => tail0 (k := 1) r2 w up_eq (by decide) (by decide) (fin _ _ (close0 r2 we hP rfl rfl rfl) (Nat.le_refl _)))⟩
theorem k_law8 (G : GS dE x m9 o h P C) (bP : P < 10000000) (hL : L ≤ 3072) (hn : n + 5 < L) (hcc : cc + 1000 ≤ mc) (hss : ss ≤ S0 + 4 * C) (hms : S0 + 9100 + 4 * (10 + 2 * (P + 400)) ≤ ms) (hJ : ∀ h' c' s' C', GS dE x m9 o h' (P + 400) C' → c' ≤ cc + 1000 → s' ≤ S0 + 9100 + 4 * C' → J h' c' s') : wp_law8 dE L xs mc ms h x m9 o (nI n) cc ss J := by
  obtain ⟨ad, σ, r, we, rfl, rfl, rfl, hP, rfl⟩ := G
  have w := we.1.1.1
  have v := we.1.1.2.1
  have hC := we.1.1.2.2.2.1.2.2
  have c30 := v.2.2.2.2.1.2.1
  have l40 := v.2.2.2.2.1.1
  have i40 := v.2.2.2.2.1.2.2.1
  unfold wp_law8 wp_L_whereIs
  have fin : ∀ h' C', GS dE (ad 7 0) (ad 8 0) (ad 22 0) h' (P + 400) C' → σ 9 5 0 ≤ C' → J h' (cc + 1 + 0 + 0) (ss + 6 + 0 + 0) := fun h' C' g hC' => hJ h' _ _ C' g (by omega) (by omega)
  have g6 := we.1.2.1.2.2.2.2.2
  refine ⟨n + 1, nI_1 n, by omega, by omega, by omega, by omega, t_7 r w, ?_⟩
  rcases NL_or (N := σ 1 2 2) (by omega) (xs (n + 1)) with ⟨c, hc, e⟩ | q
  · rw [e]
    refine c_whereIs2 r w v hc (wr1 r we.2.2 (fun h1 r1 => ⟨n + 1, nI_1 n, by omega, by omega, ?_⟩))
    rw [e]
    have w1 := (WW22 (k := (jn (nI (σ 2 c 3)).toInt64)) we.1).1.1
    have v1 : V (up σ 22 0 0 (jn (nI (σ 2 c 3)).toInt64)) 22 0 := (V_up (by decide) _ _).mpr we.2.2
    exact ⟨t_8 r1 w1, q_whereIs1 r1 w1 v hc (fun h2 r2 => tail1 r2 w1 v1 up_eq up_eq (fin _ _ (close r2 (ST_refl we) hP (Nat.zero_le _) rfl rfl rfl) (Nat.le_refl _)))⟩
  · exact c_whereIs1 r w v q ⟨rfl, n + 1, nI_1 n, by omega, by omega, t_8 r w, q_whereIs0 r w v q (fun h2 r2 => tail0 (k := 1) r2 w up_eq (by decide) (by decide) (fin _ _ (close0 r2 we hP rfl rfl rfl) (Nat.le_refl _)))⟩
theorem k_law9 (G : GS dE x m9 o h P C) (bP : P < 10000000) (hL : L ≤ 3072) (hn : n + 5 < L) (hcc : cc + 1000 ≤ mc) (hss : ss ≤ S0 + 4 * C) (hms : S0 + 9100 + 4 * (10 + 2 * (P + 400)) ≤ ms) (hJ : ∀ h' c' s' C', GS dE x m9 o h' (P + 400) C' → c' ≤ cc + 1000 → s' ≤ S0 + 9100 + 4 * C' → J h' c' s') : wp_law9 dE L xs mc ms h x m9 o (nI n) cc ss J := by
  obtain ⟨ad, σ, r, we, rfl, rfl, rfl, hP, rfl⟩ := G
  have w := we.1.1.1
  have v := we.1.1.2.1
  have hC := we.1.1.2.2.2.1.2.2
  have c30 := v.2.2.2.2.1.2.1
  have l40 := v.2.2.2.2.1.1
  have i40 := v.2.2.2.2.1.2.2.1
  unfold wp_law9 wp_L_stationOf
  have fin : ∀ h' C', GS dE (ad 7 0) (ad 8 0) (ad 22 0) h' (P + 400) C' → σ 9 5 0 ≤ C' → J h' (cc + 1 + 0 + 0) (ss + 6 + 0 + 0) := fun h' C' g hC' => hJ h' _ _ C' g (by omega) (by omega)
  have g6 := we.1.2.1.2.2.2.2.2
  refine ⟨n + 1, nI_1 n, by omega, by omega, by omega, by omega, t_7 r w, ?_⟩
  rcases NL_or (N := σ 1 2 2) (by omega) (xs (n + 1)) with ⟨c, hc, e⟩ | q
  · rw [e]
    refine c_stationOf2 r w v hc (wr1 r we.2.2 (fun h1 r1 => ⟨n + 1, nI_1 n, by omega, by omega, ?_⟩))
    rw [e]
    have w1 := (WW22 (k := (jn (nI (σ 2 c 4)).toInt64)) we.1).1.1
    have v1 : V (up σ 22 0 0 (jn (nI (σ 2 c 4)).toInt64)) 22 0 := (V_up (by decide) _ _).mpr we.2.2
    exact ⟨t_8 r1 w1, q_stationOf1 r1 w1 v g6 hc (fun h2 r2 => tail1 r2 w1 v1 up_eq up_eq (fin _ _ (close r2 (ST_refl we) hP (Nat.zero_le _) rfl rfl rfl) (Nat.le_refl _)))⟩
  · exact c_stationOf1 r w v q ⟨rfl, n + 1, nI_1 n, by omega, by omega, t_8 r w, q_stationOf0 r w v q (fun h2 r2 => tail0 (k := 1) r2 w up_eq (by decide) (by decide) (fin _ _ (close0 r2 we hP rfl rfl rfl) (Nat.le_refl _)))⟩
theorem k_law11 (G : GS dE x m9 o h P C) (bP : P < 10000000) (hL : L ≤ 3072) (hn : n + 5 < L) (hcc : cc + 1000 ≤ mc) (hss : ss ≤ S0 + 4 * C) (hms : S0 + 9100 + 4 * (10 + 2 * (P + 400)) ≤ ms) (hJ : ∀ h' c' s' C', GS dE x m9 o h' (P + 400) C' → c' ≤ cc + 1000 → s' ≤ S0 + 9100 + 4 * C' → J h' c' s') : wp_law11 dE L xs mc ms h x m9 o (nI n) cc ss J := by
  obtain ⟨ad, σ, r, we, rfl, rfl, rfl, hP, rfl⟩ := G
  have w := we.1.1.1
  have v := we.1.1.2.1
  have hC := we.1.1.2.2.2.1.2.2
  have c30 := v.2.2.2.2.1.2.1
  have l40 := v.2.2.2.2.1.1
  have i40 := v.2.2.2.2.1.2.2.1
  unfold wp_law11 wp_L_needs
  have fin : ∀ h' C', GS dE (ad 7 0) (ad 8 0) (ad 22 0) h' (P + 400) C' → σ 9 5 0 ≤ C' → J h' (cc + 1 + 0 + 0) (ss + 6 + 0 + 0) := fun h' C' g hC' => hJ h' _ _ C' g (by omega) (by omega)
  have g6 := we.1.2.1.2.2.2.2.2
  refine ⟨n + 1, nI_1 n, by omega, by omega, by omega, by omega, t_7 r w, ?_⟩
  rcases NL_or (N := σ 1 2 2) (by omega) (xs (n + 1)) with ⟨c, hc, e⟩ | q
  · rw [e]
    refine c_needs2 r w v hc (wr1 r we.2.2 (fun h1 r1 => ⟨n + 1, nI_1 n, by omega, by omega, ?_⟩))
    rw [e]
    have w1 := (WW22 (k := (jn (setI (need σ c) 10).toInt64)) we.1).1.1
    have v1 : V (up σ 22 0 0 (jn (setI (need σ c) 10).toInt64)) 22 0 := (V_up (by decide) _ _).mpr we.2.2
    exact ⟨t_8 r1 w1, q_needs1 r1 w1 we.1 hc (fun h2 r2 => tail1 r2 w1 v1 up_eq up_eq (fin _ _ (close r2 (ST_refl we) hP (Nat.zero_le _) rfl rfl rfl) (Nat.le_refl _)))⟩
  · exact c_needs1 r w v q ⟨rfl, n + 1, nI_1 n, by omega, by omega, t_8 r w, q_needs0 r w v q (fun h2 r2 => tail0 (k := 1) r2 w up_eq (by decide) (by decide) (fin _ _ (close0 r2 we hP rfl rfl rfl) (Nat.le_refl _)))⟩
theorem k_law12 (G : GS dE x m9 o h P C) (bP : P < 10000000) (hL : L ≤ 3072) (hn : n + 5 < L) (hcc : cc + 1000 ≤ mc) (hss : ss ≤ S0 + 4 * C) (hms : S0 + 9100 + 4 * (10 + 2 * (P + 400)) ≤ ms) (hJ : ∀ h' c' s' C', GS dE x m9 o h' (P + 400) C' → c' ≤ cc + 1000 → s' ≤ S0 + 9100 + 4 * C' → J h' c' s') : wp_law12 dE L xs mc ms h x m9 o (nI n) cc ss J := by
  obtain ⟨ad, σ, r, we, rfl, rfl, rfl, hP, rfl⟩ := G
  have w := we.1.1.1
  have v := we.1.1.2.1
  have hC := we.1.1.2.2.2.1.2.2
  have c30 := v.2.2.2.2.1.2.1
  have l40 := v.2.2.2.2.1.1
  have i40 := v.2.2.2.2.1.2.2.1
  unfold wp_law12 wp_L_lacks
  have fin : ∀ h' C', GS dE (ad 7 0) (ad 8 0) (ad 22 0) h' (P + 400) C' → σ 9 5 0 ≤ C' → J h' (cc + 1 + 0 + 0) (ss + 6 + 0 + 0) := fun h' C' g hC' => hJ h' _ _ C' g (by omega) (by omega)
  have g6 := we.1.2.1.2.2.2.2.2
  refine ⟨n + 1, nI_1 n, by omega, by omega, by omega, by omega, t_7 r w, ?_⟩
  rcases NL_or (N := σ 1 2 2) (by omega) (xs (n + 1)) with ⟨c, hc, e⟩ | q
  · rw [e]
    refine c_lacks2 r w v hc (wr1 r we.2.2 (fun h1 r1 => ⟨n + 1, nI_1 n, by omega, by omega, ?_⟩))
    rw [e]
    have w1 := (WW22 (k := (jn (setI (lack σ c) 10).toInt64)) we.1).1.1
    have v1 : V (up σ 22 0 0 (jn (setI (lack σ c) 10).toInt64)) 22 0 := (V_up (by decide) _ _).mpr we.2.2
    exact ⟨t_8 r1 w1, q_lacks1 r1 w1 we.1 hc (fun h2 r2 => tail1 r2 w1 v1 up_eq up_eq (fin _ _ (close r2 (ST_refl we) hP (Nat.zero_le _) rfl rfl rfl) (Nat.le_refl _)))⟩
  · exact c_lacks1 r w v q ⟨rfl, n + 1, nI_1 n, by omega, by omega, t_8 r w, q_lacks0 r w v q (fun h2 r2 => tail0 (k := 1) r2 w up_eq (by decide) (by decide) (fin _ _ (close0 r2 we hP rfl rfl rfl) (Nat.le_refl _)))⟩
theorem k_law19 (G : GS dE x m9 o h P C) (bP : P < 10000000) (hL : L ≤ 3072) (hn : n + 5 < L) (hcc : cc + 1000 ≤ mc) (hss : ss ≤ S0 + 4 * C) (hms : S0 + 9100 + 4 * (10 + 2 * (P + 400)) ≤ ms) (hJ : ∀ h' c' s' C', GS dE x m9 o h' (P + 400) C' → c' ≤ cc + 1000 → s' ≤ S0 + 9100 + 4 * C' → J h' c' s') : wp_law19 dE L xs mc ms h x m9 o (nI n) cc ss J := by
  obtain ⟨ad, σ, r, we, rfl, rfl, rfl, hP, rfl⟩ := G
  have w := we.1.1.1
  have v := we.1.1.2.1
  have hC := we.1.1.2.2.2.1.2.2
  have c30 := v.2.2.2.2.1.2.1
  have l40 := v.2.2.2.2.1.1
  have i40 := v.2.2.2.2.1.2.2.1
  unfold wp_law19 wp_L_imageOf
  have fin : ∀ h' C', GS dE (ad 7 0) (ad 8 0) (ad 22 0) h' (P + 400) C' → σ 9 5 0 ≤ C' → J h' (cc + 1 + 0 + 0) (ss + 6 + 0 + 0) := fun h' C' g hC' => hJ h' _ _ C' g (by omega) (by omega)
  have g6 := we.1.2.1.2.2.2.2.2
  refine ⟨n + 1, nI_1 n, by omega, by omega, by omega, by omega, t_7 r w, ?_⟩
  rcases NL_or (N := σ 1 2 2) (by omega) (xs (n + 1)) with ⟨c, hc, e⟩ | q
  · rw [e]
    refine c_imageOf2 r w v hc (wr1 r we.2.2 (fun h1 r1 => ⟨n + 1, nI_1 n, by omega, by omega, ?_⟩))
    rw [e]
    have w1 := (WW22 (k := (jn (nI (σ 2 c 5) - nI 1).toInt64)) we.1).1.1
    have v1 : V (up σ 22 0 0 (jn (nI (σ 2 c 5) - nI 1).toInt64)) 22 0 := (V_up (by decide) _ _).mpr we.2.2
    exact ⟨t_8 r1 w1, q_imageOf1 r1 w1 v hc (fun h2 r2 => tail1 r2 w1 v1 up_eq up_eq (fin _ _ (close r2 (ST_refl we) hP (Nat.zero_le _) rfl rfl rfl) (Nat.le_refl _)))⟩
  · exact c_imageOf1 r w v q ⟨rfl, n + 1, nI_1 n, by omega, by omega, t_8 r w, q_imageOf0 r w v q (fun h2 r2 => tail0 (k := 1) r2 w up_eq (by decide) (by decide) (fin _ _ (close0 r2 we hP rfl rfl rfl) (Nat.le_refl _)))⟩
theorem k_law10 (G : GS dE x m9 o h P C) (bP : P < 10000000) (hL : L ≤ 3072) (hn : n + 5 < L) (hcc : cc + 1000 ≤ mc) (hss : ss ≤ S0 + 4 * C) (hms : S0 + 9100 + 4 * (10 + 2 * (P + 400)) ≤ ms) (hJ : ∀ h' c' s' C', GS dE x m9 o h' (P + 400) C' → c' ≤ cc + 1000 → s' ≤ S0 + 9100 + 4 * C' → J h' c' s') : wp_law10 dE L xs mc ms h x m9 o (nI n) cc ss J := by
  obtain ⟨ad, σ, r, we, rfl, rfl, rfl, hP, rfl⟩ := G
  have w := we.1.1.1
  have v := we.1.1.2.1
  have hC := we.1.1.2.2.2.1.2.2
  have c30 := v.2.2.2.2.1.2.1
  have l40 := v.2.2.2.2.1.1
  have i40 := v.2.2.2.2.1.2.2.1
  unfold wp_law10 wp_L_carAt
  have fin : ∀ h' C', GS dE (ad 7 0) (ad 8 0) (ad 22 0) h' (P + 400) C' → σ 9 5 0 ≤ C' → J h' (cc + 1 + 0 + 0) (ss + 6 + 0 + 0) := fun h' C' g hC' => hJ h' _ _ C' g (by omega) (by omega)
  refine ⟨n + 1, nI_1 n, by omega, by omega, by omega, by omega, t_7 r w, ?_⟩
  rcases NL_or (N := 8) (by omega) (xs (n + 1)) with ⟨c, hc, e⟩ | q
  · rw [e]
    refine c_carAt2 r w v hc (wr1 r we.2.2 (fun h1 r1 => ⟨n + 1, nI_1 n, by omega, by omega, ?_⟩))
    rw [e]
    have w1 := (WW22 (k := (jn (nI (σ 25 0 c) - nI 1).toInt64)) we.1).1.1
    have v1 : V (up σ 22 0 0 (jn (nI (σ 25 0 c) - nI 1).toInt64)) 22 0 := (V_up (by decide) _ _).mpr we.2.2
    exact ⟨t_8 r1 w1, q_carAt1 r1 w1 hc (fun h2 r2 => tail1 r2 w1 v1 up_eq up_eq (fin _ _ (close r2 (ST_refl we) hP (Nat.zero_le _) rfl rfl rfl) (Nat.le_refl _)))⟩
  · exact c_carAt1 q ⟨rfl, n + 1, nI_1 n, by omega, by omega, t_8 r w, q_carAt0 r w q (fun h2 r2 => tail0 (k := 1) r2 w up_eq (by decide) (by decide) (fin _ _ (close0 r2 we hP rfl rfl rfl) (Nat.le_refl _)))⟩
theorem k_law13 (G : GS dE x m9 o h P C) (bP : P < 10000000) (hL : L ≤ 3072) (hn : n + 5 < L) (hcc : cc + 1000 ≤ mc) (hss : ss ≤ S0 + 4 * C) (hms : S0 + 9100 + 4 * (10 + 2 * (P + 400)) ≤ ms) (hJ : ∀ h' c' s' C', GS dE x m9 o h' (P + 400) C' → c' ≤ cc + 1000 → s' ≤ S0 + 9100 + 4 * C' → J h' c' s') : wp_law13 dE L xs mc ms h x m9 o (nI n) cc ss J := by
  obtain ⟨ad, σ, r, we, rfl, rfl, rfl, hP, rfl⟩ := G
  have w := we.1.1.1
  have v := we.1.1.2.1
  have hC := we.1.1.2.2.2.1.2.2
  have c30 := v.2.2.2.2.1.2.1
  have l40 := v.2.2.2.2.1.1
  have i40 := v.2.2.2.2.1.2.2.1
  unfold wp_law13 wp_L_lotIn
  have fin : ∀ h' C', GS dE (ad 7 0) (ad 8 0) (ad 22 0) h' (P + 400) C' → σ 9 5 0 ≤ C' → J h' (cc + 2 + 0 + 0) (ss + 12 + 0 + 0) := fun h' C' g hC' => hJ h' _ _ C' g (by omega) (by omega)
  refine ⟨n + 1, nI_1 n, by omega, by omega, n + 2, nI_add n 2, by omega, by omega, by omega, by omega, t_7 r w, ?_⟩
  rcases NL_or (N := σ 1 2 2) (by omega) (xs (n + 1)) with ⟨c, hc, e⟩ | q
  · rcases NL_or (N := 10) (by omega) (xs (n + 2)) with ⟨k, hk, e2⟩ | q2
    · rw [e, e2]
      refine c_lotIn3 r w v hc hk (wr1 r we.2.2 (fun h1 r1 => ⟨n + 1, nI_1 n, by omega, by omega, n + 2, nI_add n 2, by omega, by omega, ?_⟩))
      rw [e, e2]
      have w1 := (WW22 (k := (jn (nI (σ 24 c k) - nI 1).toInt64)) we.1).1.1
      have v1 : V (up σ 22 0 0 (jn (nI (σ 24 c k) - nI 1).toInt64)) 22 0 := (V_up (by decide) _ _).mpr we.2.2
      exact ⟨t_8 r1 w1, q_lotIn1 r1 w1 v hc hk (fun h2 r2 => tail1 r2 w1 v1 up_eq up_eq (fin _ _ (close r2 (ST_refl we) hP (Nat.zero_le _) rfl rfl rfl) (Nat.le_refl _)))⟩
    · rw [e]
      refine c_lotIn2 r w v hc q2 ⟨rfl, n + 1, nI_1 n, by omega, by omega, n + 2, nI_add n 2, by omega, by omega, ?_⟩
      exact ⟨t_8 r w, q_lotIn0 r w v (Or.inr q2) (fun h2 r2 => tail0 (k := 1) r2 w up_eq (by decide) (by decide) (fin _ _ (close0 r2 we hP rfl rfl rfl) (Nat.le_refl _)))⟩
  · exact c_lotIn1 r w v q ⟨rfl, n + 1, nI_1 n, by omega, by omega, n + 2, nI_add n 2, by omega, by omega, t_8 r w, q_lotIn0 r w v (Or.inl q) (fun h2 r2 => tail0 (k := 1) r2 w up_eq (by decide) (by decide) (fin _ _ (close0 r2 we hP rfl rfl rfl) (Nat.le_refl _)))⟩
theorem k_law14 (G : GS dE x m9 o h P C) (bP : P < 10000000) (hL : L ≤ 3072) (hn : n + 5 < L) (hcc : cc + 1000 ≤ mc) (hss : ss ≤ S0 + 4 * C) (hms : S0 + 9100 + 4 * (10 + 2 * (P + 400)) ≤ ms) (hJ : ∀ h' c' s' C', GS dE x m9 o h' (P + 400) C' → c' ≤ cc + 1000 → s' ≤ S0 + 9100 + 4 * C' → J h' c' s') : wp_law14 dE L xs mc ms h x m9 o (nI n) cc ss J := by
  obtain ⟨ad, σ, r, we, rfl, rfl, rfl, hP, rfl⟩ := G
  have w := we.1.1.1
  have v := we.1.1.2.1
  have hC := we.1.1.2.2.2.1.2.2
  have c30 := v.2.2.2.2.1.2.1
  have l40 := v.2.2.2.2.1.1
  have i40 := v.2.2.2.2.1.2.2.1
  unfold wp_law14 wp_L_lotByPicks
  have fin : ∀ h' C', GS dE (ad 7 0) (ad 8 0) (ad 22 0) h' (P + 400) C' → σ 9 5 0 ≤ C' → J h' (cc + 2 + 0 + 0) (ss + 12 + 0 + 0) := fun h' C' g hC' => hJ h' _ _ C' g (by omega) (by omega)
  refine ⟨n + 1, nI_1 n, by omega, by omega, n + 2, nI_add n 2, by omega, by omega, by omega, by omega, t_7 r w, ?_⟩
  rcases NL_or (N := σ 1 2 2) (by omega) (xs (n + 1)) with ⟨c, hc, e⟩ | q
  · rcases NL_or (N := 10) (by omega) (xs (n + 2)) with ⟨k, hk, e2⟩ | q2
    · rw [e, e2]
      refine c_picks3 r w v we.1.2.2 hc hk (wr1 r we.2.2 (fun h1 r1 => ⟨n + 1, nI_1 n, by omega, by omega, n + 2, nI_add n 2, by omega, by omega, ?_⟩))
      rw [e, e2]
      have w1 := (WW22 (k := (jn (nI (σ 24 c k) - nI 1).toInt64)) we.1).1.1
      have v1 : V (up σ 22 0 0 (jn (nI (σ 24 c k) - nI 1).toInt64)) 22 0 := (V_up (by decide) _ _).mpr we.2.2
      exact ⟨t_8 r1 w1, q_picks1 r1 w1 v hc hk (fun h2 r2 => tail1 r2 w1 v1 up_eq up_eq (fin _ _ (close r2 (ST_refl we) hP (Nat.zero_le _) rfl rfl rfl) (Nat.le_refl _)))⟩
    · rw [e]
      refine c_picks2 r w v hc q2 ⟨rfl, n + 1, nI_1 n, by omega, by omega, n + 2, nI_add n 2, by omega, by omega, ?_⟩
      exact ⟨t_8 r w, q_picks0 r w v (Or.inr q2) (fun h2 r2 => tail0 (k := 1) r2 w up_eq (by decide) (by decide) (fin _ _ (close0 r2 we hP rfl rfl rfl) (Nat.le_refl _)))⟩
  · exact c_picks1 r w v q ⟨rfl, n + 1, nI_1 n, by omega, by omega, n + 2, nI_add n 2, by omega, by omega, t_8 r w, q_picks0 r w v (Or.inl q) (fun h2 r2 => tail0 (k := 1) r2 w up_eq (by decide) (by decide) (fin _ _ (close0 r2 we hP rfl rfl rfl) (Nat.le_refl _)))⟩
theorem k_law20 (G : GS dE x m9 o h P C) (bP : P < 10000000) (hL : L ≤ 3072) (hn : n + 5 < L) (hcc : cc + 1000 ≤ mc) (hss : ss ≤ S0 + 4 * C) (hms : S0 + 9100 + 4 * (10 + 2 * (P + 400)) ≤ ms) (hJ : ∀ h' c' s' C', GS dE x m9 o h' (P + 400) C' → c' ≤ cc + 1000 → s' ≤ S0 + 9100 + 4 * C' → J h' c' s') : wp_law20 dE L xs mc ms h x m9 o (nI n) cc ss J := by
  obtain ⟨ad, σ, r, we, rfl, rfl, rfl, hP, rfl⟩ := G
  have w := we.1.1.1
  have v := we.1.1.2.1
  have hC := we.1.1.2.2.2.1.2.2
  have c30 := v.2.2.2.2.1.2.1
  have l40 := v.2.2.2.2.1.1
  have i40 := v.2.2.2.2.1.2.2.1
  unfold wp_law20 wp_L_versionIn
  have fin : ∀ h' C', GS dE (ad 7 0) (ad 8 0) (ad 22 0) h' (P + 400) C' → σ 9 5 0 ≤ C' → J h' (cc + 2 + 0 + 0) (ss + 12 + 0 + 0) := fun h' C' g hC' => hJ h' _ _ C' g (by omega) (by omega)
  refine ⟨n + 1, nI_1 n, by omega, by omega, n + 2, nI_add n 2, by omega, by omega, by omega, by omega, t_7 r w, ?_⟩
  rcases NL_or (N := σ 1 3 2) (by omega) (xs (n + 1)) with ⟨c, hc, e⟩ | q
  · rcases NL_or (N := 10) (by omega) (xs (n + 2)) with ⟨k, hk, e2⟩ | q2
    · rw [e, e2]
      refine c_versionIn3 r w v hc hk (wr1 r we.2.2 (fun h1 r1 => ⟨n + 1, nI_1 n, by omega, by omega, n + 2, nI_add n 2, by omega, by omega, ?_⟩))
      rw [e, e2]
      have w1 := (WW22 (k := (jn (nI (σ 19 c k)).toInt64)) we.1).1.1
      have v1 : V (up σ 22 0 0 (jn (nI (σ 19 c k)).toInt64)) 22 0 := (V_up (by decide) _ _).mpr we.2.2
      exact ⟨t_8 r1 w1, q_versionIn1 r1 w1 v hc hk (fun h2 r2 => tail1 r2 w1 v1 up_eq up_eq (fin _ _ (close r2 (ST_refl we) hP (Nat.zero_le _) rfl rfl rfl) (Nat.le_refl _)))⟩
    · rw [e]
      refine c_versionIn2 r w v hc q2 ⟨rfl, n + 1, nI_1 n, by omega, by omega, n + 2, nI_add n 2, by omega, by omega, ?_⟩
      exact ⟨t_8 r w, q_versionIn0 r w v (Or.inr q2) (fun h2 r2 => tail0 (k := 1) r2 w up_eq (by decide) (by decide) (fin _ _ (close0 r2 we hP rfl rfl rfl) (Nat.le_refl _)))⟩
  · exact c_versionIn1 r w v q ⟨rfl, n + 1, nI_1 n, by omega, by omega, n + 2, nI_add n 2, by omega, by omega, t_8 r w, q_versionIn0 r w v (Or.inl q) (fun h2 r2 => tail0 (k := 1) r2 w up_eq (by decide) (by decide) (fin _ _ (close0 r2 we hP rfl rfl rfl) (Nat.le_refl _)))⟩
theorem k_law22 (G : GS dE x m9 o h P C) (bP : P < 10000000) (hL : L ≤ 3072) (hn : n + 5 < L) (hcc : cc + 1000 ≤ mc) (hss : ss ≤ S0 + 4 * C) (hms : S0 + 9100 + 4 * (10 + 2 * (P + 400)) ≤ ms) (hJ : ∀ h' c' s' C', GS dE x m9 o h' (P + 400) C' → c' ≤ cc + 1000 → s' ≤ S0 + 9100 + 4 * C' → J h' c' s') : wp_law22 dE L xs mc ms h x m9 o (nI n) cc ss J := by
  obtain ⟨ad, σ, r, we, rfl, rfl, rfl, hP, rfl⟩ := G
  have w := we.1.1.1
  have v := we.1.1.2.1
  have hC := we.1.1.2.2.2.1.2.2
  have c30 := v.2.2.2.2.1.2.1
  have l40 := v.2.2.2.2.1.1
  have i40 := v.2.2.2.2.1.2.2.1
  unfold wp_law22 wp_L_isFit
  have fin : ∀ h' C', GS dE (ad 7 0) (ad 8 0) (ad 22 0) h' (P + 400) C' → σ 9 5 0 ≤ C' → J h' (cc + 1 + 0 + 0) (ss + 6 + 0 + 0) := fun h' C' g hC' => hJ h' _ _ C' g (by omega) (by omega)
  refine ⟨n + 1, nI_1 n, by omega, by omega, by omega, by omega, t_7 r w, ?_⟩
  rcases NL_or (N := σ 1 2 2) (by omega) (xs (n + 1)) with ⟨c, hc, e⟩ | q
  · rw [e]
    refine c_isFit2 r w v hc (wrB r we.2.2 (fun h1 r1 => ⟨n + 1, nI_1 n, by omega, by omega, ?_⟩))
    rw [e]
    have w1 := (WW22 (k := (jn (bJ (fitsS σ c)))) we.1).1.1
    have v1 : V (up σ 22 0 0 (jn (bJ (fitsS σ c)))) 22 0 := (V_up (by decide) _ _).mpr we.2.2
    exact ⟨t_8 r1 w1, q_isFit1 r1 w1 we.1 hc (fun h2 r2 => tailB r2 w1 v1 up_eq up_eq (fin _ _ (close r2 (ST_refl we) hP (Nat.zero_le _) rfl rfl rfl) (Nat.le_refl _)))⟩
  · exact c_isFit1 r w v q ⟨rfl, n + 1, nI_1 n, by omega, by omega, t_8 r w, q_isFit0 r w v q (fun h2 r2 => tail0 (k := 1) r2 w up_eq (by decide) (by decide) (fin _ _ (close0 r2 we hP rfl rfl rfl) (Nat.le_refl _)))⟩
theorem k_law23 (G : GS dE x m9 o h P C) (bP : P < 10000000) (hL : L ≤ 3072) (hn : n + 5 < L) (hcc : cc + 1000 ≤ mc) (hss : ss ≤ S0 + 4 * C) (hms : S0 + 9100 + 4 * (10 + 2 * (P + 400)) ≤ ms) (hJ : ∀ h' c' s' C', GS dE x m9 o h' (P + 400) C' → c' ≤ cc + 1000 → s' ≤ S0 + 9100 + 4 * C' → J h' c' s') : wp_law23 dE L xs mc ms h x m9 o (nI n) cc ss J := by
  obtain ⟨ad, σ, r, we, rfl, rfl, rfl, hP, rfl⟩ := G
  have w := we.1.1.1
  have v := we.1.1.2.1
  have hC := we.1.1.2.2.2.1.2.2
  have c30 := v.2.2.2.2.1.2.1
  have l40 := v.2.2.2.2.1.1
  have i40 := v.2.2.2.2.1.2.2.1
  unfold wp_law23 wp_L_isTested
  have fin : ∀ h' C', GS dE (ad 7 0) (ad 8 0) (ad 22 0) h' (P + 400) C' → σ 9 5 0 ≤ C' → J h' (cc + 1 + 0 + 0) (ss + 6 + 0 + 0) := fun h' C' g hC' => hJ h' _ _ C' g (by omega) (by omega)
  refine ⟨n + 1, nI_1 n, by omega, by omega, by omega, by omega, t_7 r w, ?_⟩
  rcases NL_or (N := σ 1 2 2) (by omega) (xs (n + 1)) with ⟨c, hc, e⟩ | q
  · rw [e]
    have b6 := (v.2.2.1 c).2.1
    have eb : σ 2 c 6 = (decide (σ 2 c 6 ≠ 0)).toNat := by
      have : σ 2 c 6 = 0 ∨ σ 2 c 6 = 1 := by omega
      rcases this with z | z <;> rw [z] <;> rfl
    generalize decide (σ 2 c 6 ≠ 0) = b at eb
    refine c_isTested2 r w v hc ?_
    rw [eb]
    refine wrB r we.2.2 (fun h1 r1 => ⟨n + 1, nI_1 n, by omega, by omega, ?_⟩)
    rw [e]
    have w1 := (WW22 (k := (jn (bJ b))) we.1).1.1
    have v1 : V (up σ 22 0 0 (jn (bJ b))) 22 0 := (V_up (by decide) _ _).mpr we.2.2
    refine ⟨t_8 r1 w1, q_isTested1 r1 w1 v hc (fun h2 r2 => ?_)⟩
    rw [eb]
    exact tailB r2 w1 v1 up_eq up_eq (fin _ _ (close r2 (ST_refl we) hP (Nat.zero_le _) rfl rfl rfl) (Nat.le_refl _))
  · exact c_isTested1 r w v q ⟨rfl, n + 1, nI_1 n, by omega, by omega, t_8 r w, q_isTested0 r w v q (fun h2 r2 => tail0 (k := 1) r2 w up_eq (by decide) (by decide) (fin _ _ (close0 r2 we hP rfl rfl rfl) (Nat.le_refl _)))⟩
theorem k_law2 (G : GS dE x m9 o h P C) (bP : P < 10000000) (hL : L ≤ 3072) (hn : n + 5 < L) (hcc : cc + 1000 ≤ mc) (hss : ss ≤ S0 + 4 * C) (hms : S0 + 9100 + 4 * (10 + 2 * (P + 400)) ≤ ms) (hJ : ∀ h' c' s' C', GS dE x m9 o h' (P + 400) C' → c' ≤ cc + 1000 → s' ≤ S0 + 9100 + 4 * C' → J h' c' s') : wp_law2 dE L xs mc ms h x m9 o (nI n) cc ss J := by
  obtain ⟨ad, σ, r, we, rfl, rfl, rfl, hP, rfl⟩ := G
  have w := we.1.1.1
  have v := we.1.1.2.1
  have hC := we.1.1.2.2.2.1.2.2
  have c30 := v.2.2.2.2.1.2.1
  have l40 := v.2.2.2.2.1.1
  have i40 := v.2.2.2.2.1.2.2.1
  unfold wp_law2 wp_L_recall
  have fin : ∀ h' C', GS dE (ad 7 0) (ad 8 0) (ad 22 0) h' (P + 400) C' → σ 9 5 0 ≤ C' → J h' (cc + 2 + 0 + 0) (ss + 12 + 0 + 0) := fun h' C' g hC' => hJ h' _ _ C' g (by omega) (by omega)
  refine ⟨n + 1, nI_1 n, by omega, by omega, by omega, by omega, t_7 r w, ?_⟩
  rcases NL_or (N := σ 1 1 2) (by omega) (xs (n + 1)) with ⟨l, hl, e⟩ | q
  · rw [e]
    by_cases z : σ 5 l 4 = 0
    · have st := ST_recall we hl
      refine c_recall3 r we.1.1 hl z (fun h' r' => wr1 r' st.1.2.2 (fun h1 r1 => ⟨n + 1, nI_1 n, by omega, by omega, ?_⟩))
      rw [e]
      have w1 := (WW22 (k := jn (nI (cnt (hasLot σ l) (σ 1 2 2))).toInt64) st.1.1).1.1
      have v1 : V (up (recallS σ l) 22 0 0 (jn (nI (cnt (hasLot σ l) (σ 1 2 2))).toInt64)) 22 0 := (V_up (by decide) _ _).mpr st.1.2.2
      exact ⟨t_8 r1 w1, q_recall2 r1 w1 v hl z (fun h2 r2 => tail1 r2 w1 v1 up_eq up_eq (fin _ _ (close r2 st hP (Nat.zero_le _) rfl rfl rfl) st.2.2))⟩
    · refine c_recall2 r w v hl z (Or.inr ⟨rfl, n + 1, nI_1 n, by omega, by omega, ?_⟩)
      rw [e]
      exact ⟨t_8 r w, q_recall1 r w v hl z (fun h2 r2 => tail0 (k := 2) r2 w up_eq (by decide) (by decide) (fin _ _ (close0 r2 we hP rfl rfl rfl) (Nat.le_refl _)))⟩
  · exact c_recall1 r w v q (Or.inl ⟨rfl, n + 1, nI_1 n, by omega, by omega, t_8 r w, q_recall0 r w v q (fun h2 r2 => tail0 (k := 1) r2 w up_eq (by decide) (by decide) (fin _ _ (close0 r2 we hP rfl rfl rfl) (Nat.le_refl _)))⟩)
theorem k_law6 (G : GS dE x m9 o h P C) (bP : P < 10000000) (hL : L ≤ 3072) (hn : n + 5 < L) (hcc : cc + 1000 ≤ mc) (hss : ss ≤ S0 + 4 * C) (hms : S0 + 9100 + 4 * (10 + 2 * (P + 400)) ≤ ms) (hJ : ∀ h' c' s' C', GS dE x m9 o h' (P + 400) C' → c' ≤ cc + 1000 → s' ≤ S0 + 9100 + 4 * C' → J h' c' s') : wp_law6 dE L xs mc ms h x m9 o (nI n) cc ss J := by
  obtain ⟨ad, σ, r, we, rfl, rfl, rfl, hP, rfl⟩ := G
  have w := we.1.1.1
  have v := we.1.1.2.1
  have hC := we.1.1.2.2.2.1.2.2
  have c30 := v.2.2.2.2.1.2.1
  have l40 := v.2.2.2.2.1.1
  have i40 := v.2.2.2.2.1.2.2.1
  unfold wp_law6 wp_L_fault
  have fin : ∀ h' C', GS dE (ad 7 0) (ad 8 0) (ad 22 0) h' (P + 400) C' → σ 9 5 0 ≤ C' → J h' (cc + 2 + 0 + 0) (ss + 12 + 0 + 0) := fun h' C' g hC' => hJ h' _ _ C' g (by omega) (by omega)
  refine ⟨n + 1, nI_1 n, by omega, by omega, by omega, by omega, t_7 r w, ?_⟩
  rcases NL_or (N := σ 1 2 2) (by omega) (xs (n + 1)) with ⟨c, hc, e⟩ | q
  · rw [e]
    by_cases z : σ 2 c 3 = 3
    · refine c_fault2 r w v hc z (Or.inr ⟨rfl, n + 1, nI_1 n, by omega, by omega, ?_⟩)
      rw [e]
      exact ⟨t_8 r w, q_fault1 r w v hc z (fun h2 r2 => tail0 (k := 2) r2 w up_eq (by decide) (by decide) (fin _ _ (close0 r2 we hP rfl rfl rfl) (Nat.le_refl _)))⟩
    · have st := ST_fault we hc
      refine c_fault3 r w v hc z (fun h' r' => wrB r' st.1.2.2 (fun h1 r1 => ⟨n + 1, nI_1 n, by omega, by omega, ?_⟩))
      rw [e]
      have w1 := (WW22 (k := jn (bJ (decide (σ 2 c 8 = 0)))) st.1.1).1.1
      have v1 : V (up (faultS σ c) 22 0 0 (jn (bJ (decide (σ 2 c 8 = 0))))) 22 0 := (V_up (by decide) _ _).mpr st.1.2.2
      exact ⟨t_8 r1 w1, q_fault2 r1 w1 v hc z (fun h2 r2 => tailB r2 w1 v1 up_eq up_eq (fin _ _ (close r2 st hP (Nat.zero_le _) rfl rfl rfl) st.2.2))⟩
  · exact c_fault1 r w v q (Or.inl ⟨rfl, n + 1, nI_1 n, by omega, by omega, t_8 r w, q_fault0 r w v q (fun h2 r2 => tail0 (k := 1) r2 w up_eq (by decide) (by decide) (fin _ _ (close0 r2 we hP rfl rfl rfl) (Nat.le_refl _)))⟩)
theorem k_law17 (G : GS dE x m9 o h P C) (bP : P < 10000000) (hL : L ≤ 3072) (hn : n + 5 < L) (hcc : cc + 1000 ≤ mc) (hss : ss ≤ S0 + 4 * C) (hms : S0 + 9100 + 4 * (10 + 2 * (P + 400)) ≤ ms) (hJ : ∀ h' c' s' C', GS dE x m9 o h' (P + 400) C' → c' ≤ cc + 1000 → s' ≤ S0 + 9100 + 4 * C' → J h' c' s') : wp_law17 dE L xs mc ms h x m9 o (nI n) cc ss J := by
  obtain ⟨ad, σ, r, we, rfl, rfl, rfl, hP, rfl⟩ := G
  have w := we.1.1.1
  have v := we.1.1.2.1
  have hC := we.1.1.2.2.2.1.2.2
  have c30 := v.2.2.2.2.1.2.1
  have l40 := v.2.2.2.2.1.1
  have i40 := v.2.2.2.2.1.2.2.1
  unfold wp_law17 wp_L_sign
  have fin : ∀ h' C', GS dE (ad 7 0) (ad 8 0) (ad 22 0) h' (P + 400) C' → σ 9 5 0 ≤ C' → J h' (cc + 2 + 0 + 0) (ss + 12 + 0 + 0) := fun h' C' g hC' => hJ h' _ _ C' g (by omega) (by omega)
  refine ⟨n + 1, nI_1 n, by omega, by omega, n + 2, nI_add n 2, by omega, by omega, by omega, by omega, t_7 r w, ?_⟩
  rcases NL_or (N := σ 1 3 2) (by omega) (xs (n + 1)) with ⟨c, hc, e⟩ | q
  · rcases NL_or (N := σ 1 2 2) (by omega) (xs (n + 2)) with ⟨k, hk, e2⟩ | q2
    · rw [e, e2]
      have st := ST_sign we hc (show k < 30 by omega)
      refine c_sign3 r w v hc hk (fun h' r' => wrB r' st.1.2.2 (fun h1 r1 => ⟨n + 1, nI_1 n, by omega, by omega, n + 2, nI_add n 2, by omega, by omega, ?_⟩))
      rw [e, e2]
      have w1 := (WW22 (k := jn (bJ (!sgnd σ c k))) st.1.1).1.1
      have v1 : V (up (signS σ c k) 22 0 0 (jn (bJ (!sgnd σ c k)))) 22 0 := (V_up (by decide) _ _).mpr st.1.2.2
      exact ⟨t_8 r1 w1, q_sign1 r1 w1 we.1 hc hk (fun h2 r2 => tailB r2 w1 v1 up_eq up_eq (fin _ _ (close r2 st hP (Nat.zero_le _) rfl rfl rfl) st.2.2))⟩
    · rw [e]
      refine c_sign2 r w v hc q2 ⟨rfl, n + 1, nI_1 n, by omega, by omega, n + 2, nI_add n 2, by omega, by omega, ?_⟩
      exact ⟨t_8 r w, q_sign0 r w v (Or.inr q2) (fun h2 r2 => tail0 (k := 1) r2 w up_eq (by decide) (by decide) (fin _ _ (close0 r2 we hP rfl rfl rfl) (Nat.le_refl _)))⟩
  · exact c_sign1 r w v q ⟨rfl, n + 1, nI_1 n, by omega, by omega, n + 2, nI_add n 2, by omega, by omega, t_8 r w, q_sign0 r w v (Or.inl q) (fun h2 r2 => tail0 (k := 1) r2 w up_eq (by decide) (by decide) (fin _ _ (close0 r2 we hP rfl rfl rfl) (Nat.le_refl _)))⟩
theorem k_law18 (G : GS dE x m9 o h P C) (bP : P < 10000000) (hL : L ≤ 3072) (hn : n + 5 < L) (hcc : cc + 1000 ≤ mc) (hss : ss ≤ S0 + 4 * C) (hms : S0 + 9100 + 4 * (10 + 2 * (P + 400)) ≤ ms) (hJ : ∀ h' c' s' C', GS dE x m9 o h' (P + 400) C' → c' ≤ cc + 1000 → s' ≤ S0 + 9100 + 4 * C' → J h' c' s') : wp_law18 dE L xs mc ms h x m9 o (nI n) cc ss J := by
  obtain ⟨ad, σ, r, we, rfl, rfl, rfl, hP, rfl⟩ := G
  have w := we.1.1.1
  have v := we.1.1.2.1
  have hC := we.1.1.2.2.2.1.2.2
  have c30 := v.2.2.2.2.1.2.1
  have l40 := v.2.2.2.2.1.1
  have i40 := v.2.2.2.2.1.2.2.1
  unfold wp_law18 wp_L_flash
  have fin : ∀ h' C', GS dE (ad 7 0) (ad 8 0) (ad 22 0) h' (P + 400) C' → σ 9 5 0 ≤ C' → J h' (cc + 3 + 0 + 0) (ss + 18 + 0 + 0) := fun h' C' g hC' => hJ h' _ _ C' g (by omega) (by omega)
  have g6 := we.1.2.1.2.2.2.2.2
  refine ⟨n + 1, nI_1 n, by omega, by omega, n + 2, nI_add n 2, by omega, by omega, by omega, by omega, t_7 r w, ?_⟩
  rcases NL_or (N := σ 1 2 2) (by omega) (xs (n + 1)) with ⟨c, hc, e⟩ | q
  · rcases NL_or (N := σ 1 3 2) (by omega) (xs (n + 2)) with ⟨k, hk, e2⟩ | q2
    · rw [e, e2]
      by_cases z : canFl σ c
      · have st := ST_flash we hc hk
        refine c_flash4 r we.1.1 g6 hc hk z (fun h' r' => wr1 r' st.1.2.2 (fun h1 r1 => ⟨n + 1, nI_1 n, by omega, by omega, n + 2, nI_add n 2, by omega, by omega, ?_⟩))
        rw [e, e2]
        have w1 := (WW22 (k := jn (nI (σ 2 c 5) - nI 1).toInt64) st.1.1).1.1
        have v1 : V (up (flashS σ c k) 22 0 0 (jn (nI (σ 2 c 5) - nI 1).toInt64)) 22 0 := (V_up (by decide) _ _).mpr st.1.2.2
        exact ⟨t_8 r1 w1, q_flash2 r1 w1 v hc hk z (fun h2 r2 => tail1 r2 w1 v1 up_eq up_eq (fin _ _ (close r2 st hP (Nat.zero_le _) rfl rfl rfl) st.2.2))⟩
      · refine c_flash3 r w v g6 hc hk z (Or.inr ⟨rfl, n + 1, nI_1 n, by omega, by omega, n + 2, nI_add n 2, by omega, by omega, ?_⟩)
        rw [e, e2]
        exact ⟨t_8 r w, q_flash1 r w v hc hk z (fun h2 r2 => tail0 (k := 2) r2 w up_eq (by decide) (by decide) (fin _ _ (close0 r2 we hP rfl rfl rfl) (Nat.le_refl _)))⟩
    · rw [e]
      refine c_flash2 r w v hc q2 (Or.inl ⟨rfl, n + 1, nI_1 n, by omega, by omega, n + 2, nI_add n 2, by omega, by omega, ?_⟩)
      exact ⟨t_8 r w, q_flash0 r w v (Or.inr q2) (fun h2 r2 => tail0 (k := 1) r2 w up_eq (by decide) (by decide) (fin _ _ (close0 r2 we hP rfl rfl rfl) (Nat.le_refl _)))⟩
  · exact c_flash1 r w v q (Or.inl ⟨rfl, n + 1, nI_1 n, by omega, by omega, n + 2, nI_add n 2, by omega, by omega, t_8 r w, q_flash0 r w v (Or.inl q) (fun h2 r2 => tail0 (k := 1) r2 w up_eq (by decide) (by decide) (fin _ _ (close0 r2 we hP rfl rfl rfl) (Nat.le_refl _)))⟩)
theorem k_law1 (G : GS dE x m9 o h P C) (bP : P < 10000000) (hL : L ≤ 3072) (hn : n + 5 < L) (hcc : cc + 1000 ≤ mc) (hss : ss ≤ S0 + 4 * C) (hms : S0 + 9100 + 4 * (10 + 2 * (P + 400)) ≤ ms) (hJ : ∀ h' c' s' C', GS dE x m9 o h' (P + 400) C' → c' ≤ cc + 1000 → s' ≤ S0 + 9100 + 4 * C' → J h' c' s') : wp_law1 dE L xs mc ms h x m9 o (nI n) cc ss J := by
  obtain ⟨ad, σ, r, we, rfl, rfl, rfl, hP, rfl⟩ := G
  have w := we.1.1.1
  have v := we.1.1.2.1
  have hC := we.1.1.2.2.2.1.2.2
  have c30 := v.2.2.2.2.1.2.1
  have l40 := v.2.2.2.2.1.1
  have i40 := v.2.2.2.2.1.2.2.1
  unfold wp_law1 wp_L_lot
  have fin : ∀ h' C', GS dE (ad 7 0) (ad 8 0) (ad 22 0) h' (P + 400) C' → σ 9 5 0 ≤ C' → J h' (cc + 3 + 0 + 0) (ss + 60 + 0 + 0) := fun h' C' g hC' => hJ h' _ _ C' g (by omega) (by omega)
  refine ⟨n + 1, nI_1 n, by omega, by omega, n + 2, nI_add n 2, by omega, by omega, n + 3, nI_add n 3, by omega, by omega, by omega, by omega, t_7 r w, ?_⟩
  rcases NL_or (N := 10) (by omega) (xs (n + 1)) with ⟨k, hk, e⟩ | q
  · rw [e]
    by_cases hr : NR (xs (n + 2)) 1 99 ∨ NR (xs (n + 3)) 1 50
    · refine c_lot2 hk hr (Or.inr (Or.inl ⟨rfl, n + 1, nI_1 n, by omega, by omega, n + 2, nI_add n 2, by omega, by omega, n + 3, nI_add n 3, by omega, by omega, ?_⟩))
      rw [e]
      exact ⟨t_8 r w, q_lotN2 r w hk hr (fun h2 r2 => tail0 (k := 2) r2 w up_eq (by decide) (by decide) (fin _ _ (close0 r2 we hP rfl rfl rfl) (Nat.le_refl _)))⟩
    · obtain ⟨y, y1, y99, e2⟩ := (NR_or (a := 1) (b := 99) (by decide) (by decide) (xs (n + 2))).resolve_right (fun z => hr (Or.inl z))
      obtain ⟨u, u1, u50, e3⟩ := (NR_or (a := 1) (b := 50) (by decide) (by decide) (xs (n + 3))).resolve_right (fun z => hr (Or.inr z))
      rw [e2, e3]
      by_cases hN : σ 1 1 2 < 40
      · have st := ST_lot (u := u) we hN hk (show y < 100 by omega) u50
        refine c_lot4 r we.1.1 hk y1 y99 u1 u50 hN (fun ad' h' ah r' => ?_)
        have a7 : ad' 7 0 = ad 7 0 := ah.1
        rw [← ah.2.2, ← ah.2.1] at *
        refine wr1 r' st.1.2.2 (fun h1 r1 => ⟨n + 1, nI_1 n, by omega, by omega, n + 2, nI_add n 2, by omega, by omega, n + 3, nI_add n 3, by omega, by omega, ?_⟩)
        rw [e, e2, e3]
        have w1 := (WW22 (k := jn (nI (σ 1 1 2)).toInt64) st.1.1).1.1
        have v1 : V (up (lotS σ k y u) 22 0 0 (jn (nI (σ 1 1 2)).toInt64)) 22 0 := (V_up (by decide) _ _).mpr st.1.2.2
        exact ⟨t_8 r1 w1, q_lotN4 r1 w1 we.1 hk y1 y99 u1 u50 hN (fun h2 r2 => tail1 r2 w1 v1 up_eq up_eq (fin _ _ (close r2 st hP (Nat.zero_le _) a7 rfl rfl) st.2.2))⟩
      · refine c_lot3 r w v hk y1 y99 u1 u50 hN (Or.inr (Or.inr ⟨rfl, n + 1, nI_1 n, by omega, by omega, n + 2, nI_add n 2, by omega, by omega, n + 3, nI_add n 3, by omega, by omega, ?_⟩))
        rw [e, e2, e3]
        exact ⟨t_8 r w, q_lotN3 r w v hk y1 y99 u1 u50 hN (fun h2 r2 => tail0 (k := 3) r2 w up_eq (by decide) (by decide) (fin _ _ (close0 r2 we hP rfl rfl rfl) (Nat.le_refl _)))⟩
  · exact c_lot1 q (Or.inl ⟨rfl, n + 1, nI_1 n, by omega, by omega, n + 2, nI_add n 2, by omega, by omega, n + 3, nI_add n 3, by omega, by omega, t_8 r w, q_lotN1 r w q (fun h2 r2 => tail0 (k := 1) r2 w up_eq (by decide) (by decide) (fin _ _ (close0 r2 we hP rfl rfl rfl) (Nat.le_refl _)))⟩)
theorem k_law4 (G : GS dE x m9 o h P C) (bP : P < 10000000) (hL : L ≤ 3072) (hn : n + 5 < L) (hcc : cc + 1000 ≤ mc) (hss : ss ≤ S0 + 4 * C) (hms : S0 + 9100 + 4 * (10 + 2 * (P + 400)) ≤ ms) (hJ : ∀ h' c' s' C', GS dE x m9 o h' (P + 400) C' → c' ≤ cc + 1000 → s' ≤ S0 + 9100 + 4 * C' → J h' c' s') : wp_law4 dE L xs mc ms h x m9 o (nI n) cc ss J := by
  obtain ⟨ad, σ, r, we, rfl, rfl, rfl, hP, rfl⟩ := G
  have w := we.1.1.1
  have v := we.1.1.2.1
  have hC := we.1.1.2.2.2.1.2.2
  have c30 := v.2.2.2.2.1.2.1
  have l40 := v.2.2.2.2.1.1
  have i40 := v.2.2.2.2.1.2.2.1
  unfold wp_law4 wp_L_order
  have fin : ∀ h' C', GS dE (ad 7 0) (ad 8 0) (ad 22 0) h' (P + 400) C' → σ 9 5 0 ≤ C' → J h' (cc + 3 + 0 + 0) (ss + 68 + 0 + 0) := fun h' C' g hC' => hJ h' _ _ C' g (by omega) (by omega)
  refine ⟨n + 1, nI_1 n, by omega, by omega, by omega, by omega, t_7 r w, ?_⟩
  rcases NR_or (a := 0) (b := 255) (by decide) (by decide) (xs (n + 1)) with ⟨k, -, hk, e⟩ | q
  · rw [e]
    by_cases hN : σ 1 2 2 < 30
    · have st := ST_order (o := k) we hN
      refine c_order3 r we.1.1 hk hN (fun ad' h' ah r' => ?_)
      have a7 : ad' 7 0 = ad 7 0 := ah.1
      rw [← ah.2.2, ← ah.2.1] at *
      refine wr1 r' st.1.2.2 (fun h1 r1 => ⟨n + 1, nI_1 n, by omega, by omega, ?_⟩)
      rw [e]
      have w1 := (WW22 (k := jn (nI (σ 1 2 2)).toInt64) st.1.1).1.1
      have v1 : V (up (orderS σ k) 22 0 0 (jn (nI (σ 1 2 2)).toInt64)) 22 0 := (V_up (by decide) _ _).mpr st.1.2.2
      exact ⟨t_8 r1 w1, q_order3 r1 w1 we.1 hk hN (fun h2 r2 => tail1 r2 w1 v1 up_eq up_eq (fin _ _ (close r2 st hP (Nat.zero_le _) a7 rfl rfl) st.2.2))⟩
    · refine c_order2 r w v hk hN (Or.inr ⟨rfl, n + 1, nI_1 n, by omega, by omega, ?_⟩)
      rw [e]
      exact ⟨t_8 r w, q_order2 r w v hk hN (fun h2 r2 => tail0 (k := 2) r2 w up_eq (by decide) (by decide) (fin _ _ (close0 r2 we hP rfl rfl rfl) (Nat.le_refl _)))⟩
  · exact c_order1 q (Or.inl ⟨rfl, n + 1, nI_1 n, by omega, by omega, t_8 r w, q_order1 r w q (fun h2 r2 => tail0 (k := 1) r2 w up_eq (by decide) (by decide) (fin _ _ (close0 r2 we hP rfl rfl rfl) (Nat.le_refl _)))⟩)
theorem k_law16 (G : GS dE x m9 o h P C) (bP : P < 10000000) (hL : L ≤ 3072) (hn : n + 5 < L) (hcc : cc + 1000 ≤ mc) (hss : ss ≤ S0 + 4 * C) (hms : S0 + 9100 + 4 * (10 + 2 * (P + 400)) ≤ ms) (hJ : ∀ h' c' s' C', GS dE x m9 o h' (P + 400) C' → c' ≤ cc + 1000 → s' ≤ S0 + 9100 + 4 * C' → J h' c' s') : wp_law16 dE L xs mc ms h x m9 o (nI n) cc ss J := by
  obtain ⟨ad, σ, r, we, rfl, rfl, rfl, hP, rfl⟩ := G
  have w := we.1.1.1
  have v := we.1.1.2.1
  have hC := we.1.1.2.2.2.1.2.2
  have c30 := v.2.2.2.2.1.2.1
  have l40 := v.2.2.2.2.1.1
  have i40 := v.2.2.2.2.1.2.2.1
  unfold wp_law16 wp_L_build
  have fin : ∀ h' C', GS dE (ad 7 0) (ad 8 0) (ad 22 0) h' (P + 400) C' → σ 9 5 0 ≤ C' → J h' (cc + 4 + 0 + 0) (ss + 68 + 0 + 0) := fun h' C' g hC' => hJ h' _ _ C' g (by omega) (by omega)
  refine ⟨n + 1, nI_1 n, by omega, by omega, by omega, by omega, t_7 r w, ?_⟩
  rcases NL_or (N := σ 1 2 2) (by omega) (xs (n + 1)) with ⟨c, hc, e⟩ | q
  · rw [e]
    have same : ∀ i j, i < σ 1 3 2 → j < σ 1 3 2 → built σ i c = true → built σ j c = true → i = j := by
      intro i j hi hj bi bj
      refine we.2.1 i j hi hj (fun k hk => ?_)
      have g : ∀ n, built σ n c = true → σ 19 n k = sv σ c k := by
        intro n bn
        by_cases z : σ 19 n k = sv σ c k
        · exact z
        · have : false = built σ n c := all10_f hk (by simp [z])
          rw [← this] at bn
          cases bn
      rw [g i bi, g j bj]
    refine c_build r we.1.1 hc (fun i hi bi => wr1 r we.2.2 (fun h1 r1 => ⟨n + 1, nI_1 n, by omega, by omega, ?_⟩)) (fun none hN => Or.inr ⟨rfl, n + 1, nI_1 n, by omega, by omega, ?_⟩) (fun none hN ad' h' ah r' => ?_)
    · rw [e]
      have w1 := (WW22 (k := jn (nI i).toInt64) we.1).1.1
      have v1 : V (up σ 22 0 0 (jn (nI i).toInt64)) 22 0 := (V_up (by decide) _ _).mpr we.2.2
      refine ⟨t_8 r1 w1, q_build r1 w1 we.1 we.2.1 hc (fun i2 hi2 bi2 h2 r2 => ?_) (fun none => absurd (none i hi) (by rw [bi]; decide)) (fun none => absurd (none i hi) (by rw [bi]; decide))⟩
      have : i2 = i := same i2 i hi2 hi bi2 bi
      subst this
      exact tail1 r2 w1 v1 up_eq up_eq (fin _ _ (close r2 (ST_refl we) hP (Nat.zero_le _) rfl rfl rfl) (Nat.le_refl _))
    · rw [e]
      exact ⟨t_8 r w, q_build r w we.1 we.2.1 hc (fun i2 hi2 bi2 => absurd (none i2 hi2) (by rw [bi2]; decide)) (fun _ _ h2 r2 => tail0 (k := 2) r2 w up_eq (by decide) (by decide) (fin _ _ (close0 r2 we hP rfl rfl rfl) (Nat.le_refl _))) (fun _ hN2 => absurd hN2 hN)⟩
    · have st := ST_img we hN none
      have a7 : ad' 7 0 = ad 7 0 := ah.1
      rw [← ah.2.2, ← ah.2.1] at *
      refine wr1 r' st.1.2.2 (fun h1 r1 => ⟨n + 1, nI_1 n, by omega, by omega, ?_⟩)
      rw [e]
      have w1 := (WW22 (k := jn (nI (σ 1 3 2)).toInt64) st.1.1).1.1
      have v1 : V (up (imgS σ c) 22 0 0 (jn (nI (σ 1 3 2)).toInt64)) 22 0 := (V_up (by decide) _ _).mpr st.1.2.2
      exact ⟨t_8 r1 w1, q_build r1 w1 we.1 we.2.1 hc (fun i2 hi2 bi2 => absurd (none i2 hi2) (by rw [bi2]; decide)) (fun _ hN2 => absurd hN hN2) (fun _ _ h2 r2 => tail1 r2 w1 v1 up_eq up_eq (fin _ _ (close r2 st hP (Nat.zero_le _) a7 rfl rfl) st.2.2))⟩
  · exact c_build1 r w v q (Or.inl ⟨rfl, n + 1, nI_1 n, by omega, by omega, t_8 r w, q_build0 r w v q (fun h2 r2 => tail0 (k := 1) r2 w up_eq (by decide) (by decide) (fin _ _ (close0 r2 we hP rfl rfl rfl) (Nat.le_refl _)))⟩)
set_option maxRecDepth 100000 in
theorem k_law5 (G : GS dE x m9 o h P C) (bP : P < 10000000) (hL : L ≤ 3072) (hn : n + 5 < L) (hcc : cc + 1000 ≤ mc) (hss : ss ≤ S0 + 4 * C) (hms : S0 + 9100 + 4 * (10 + 2 * (P + 400)) ≤ ms) (hJ : ∀ h' c' s' C', GS dE x m9 o h' (P + 400) C' → c' ≤ cc + 1000 → s' ≤ S0 + 9100 + 4 * C' → J h' c' s') : wp_law5 dE L xs mc ms h x m9 o (nI n) cc ss J := by
  obtain ⟨ad, σ, r, we, rfl, rfl, rfl, hP, rfl⟩ := G
  have w := we.1.1.1
  have v := we.1.1.2.1
  have hC := we.1.1.2.2.2.1.2.2
  have c30 := v.2.2.2.2.1.2.1
  have l40 := v.2.2.2.2.1.1
  have i40 := v.2.2.2.2.1.2.2.1
  unfold wp_law5 wp_L_takt
  refine ⟨n + 1, nI_1 n, by omega, by omega, ?_⟩
  rcases NR_or (a := 1) (b := 20) (by decide) (by decide) (xs (n + 1)) with ⟨k, k1, k20, e⟩ | q
  · rw [e]
    have we' : WE (up σ 98 0 0 0) := WE98 we
    have s15 : up σ 98 0 0 0 1 5 2 = σ 1 5 2 := u98 (by decide)
    have s95 : up σ 98 0 0 0 9 5 0 = σ 9 5 0 := u98 (by decide)
    have st := ST_takt we' (show up σ 98 0 0 0 1 5 2 < 18000000 by rw [s15]; omega) k20
    have c2 := st.1.1.1.2.2.2.1.2.2
    have p2 := st.2.1
    have m2 := st.2.2
    have t98 : taktN k (up σ 98 0 0 0) 98 0 0 = 0 := by rw [(KF_taktN k).2.2.2, up_eq]
    rw [s15] at p2
    rw [s95] at m2
    obtain ⟨A, eA⟩ : ∃ A, taktN k (up σ 98 0 0 0) 9 5 0 = A := ⟨_, rfl⟩
    obtain ⟨Q, eQ⟩ : ∃ Q, taktN k (up σ 98 0 0 0) 1 5 2 = Q := ⟨_, rfl⟩
    rw [eA, eQ] at c2
    rw [eA] at m2
    rw [eQ] at p2
    refine ⟨960, 9040 + 4 * (A - σ 9 5 0), by omega, by omega, ?_⟩
    refine ⟨960, 9040 + 4 * (A - σ 9 5 0), by omega, by omega, t_7 r w, ?_⟩
    refine p_takt1 (r.thr (v := 0)) we'.1 (by rw [s15]; omega) k1 k20 (by omega) (by rw [eA, s95]; omega) (fun ad' h' ag r' => ?_)
    have ah := AH_of ag
    have a7 : ad' 7 0 = ad 7 0 := ah.1
    rw [← ah.2.2, ← ah.2.1] at *
    refine wr1 r' st.1.2.2 (fun h1 r1 => ⟨n + 1, nI_1 n, by omega, by omega, ?_⟩)
    rw [e]
    have w1 := (WW22 (k := jn (nI (goneN k (up σ 98 0 0 0))).toInt64) st.1.1).1.1
    have v1 : V (up (taktN k (up σ 98 0 0 0)) 22 0 0 (jn (nI (goneN k (up σ 98 0 0 0))).toInt64)) 22 0 := (V_up (by decide) _ _).mpr st.1.2.2
    refine ⟨t_8 r1 w1, q_takt1 r1 w1 we.1 (by omega) k1 k20 (fun h2 r2 => tail1 r2 w1 v1 t98 up_eq ?_)⟩
    have r3 : RR dE ad' (up (taktN k (up σ 98 0 0 0)) 22 0 0 (jn (nI (goneN k (up σ 98 0 0 0))).toInt64)) (up (taktN k (up σ 98 0 0 0)) 98 0 0 (taktN k (up σ 98 0 0 0) 98 0 0)) h2 := by rw [up_same]; exact r2
    exact hJ _ _ _ _ (close r3 st (by rw [s15]; exact hP) (by omega) a7 rfl rfl) (by omega) (by rw [eA]; omega)
  · refine ⟨1, 6, by omega, by omega, 1, 6, by omega, by omega, t_7 r w, c_takt0 q (Nat.le_refl _) (Nat.le_refl _) ⟨rfl, n + 1, nI_1 n, by omega, by omega, t_8 r w, q_takt0 r w q (fun h2 r2 => ?_)⟩⟩
    exact tail0 (k := 1) r2 w up_eq (by decide) (by decide) (hJ _ _ _ _ (close0 r2 we hP rfl rfl rfl) (by omega) (by omega))
theorem k_law0 (G : GS dE x m9 o h P C) (bP : P < 10000000) (hL : L ≤ 3072) (hn : n + 5 < L) (hcc : cc + 1000 ≤ mc) (hss : ss ≤ S0 + 4 * C) (hms : S0 + 9100 + 4 * (10 + 2 * (P + 400)) ≤ ms) (hJ : ∀ h' c' s' C', GS dE x m9 o h' (P + 400) C' → c' ≤ cc + 1000 → s' ≤ S0 + 9100 + 4 * C' → J h' c' s') : wp_law0 dE L xs mc ms h x m9 o (nI n) cc ss J := by
  obtain ⟨ad, σ, r, we, rfl, rfl, rfl, hP, rfl⟩ := G
  have w := we.1.1.1
  have v := we.1.1.2.1
  have hC := we.1.1.2.2.2.1.2.2
  have c30 := v.2.2.2.2.1.2.1
  have l40 := v.2.2.2.2.1.1
  have i40 := v.2.2.2.2.1.2.2.1
  unfold wp_law0 wp_L_kind
  have fin : ∀ h' C', GS dE (ad 7 0) (ad 8 0) (ad 22 0) h' (P + 400) C' → σ 9 5 0 ≤ C' → J h' (cc + 2 + 0 + 0) (ss + 12 + 0 + 0) := fun h' C' g hC' => hJ h' _ _ C' g (by omega) (by omega)
  refine ⟨n + 1, nI_1 n, by omega, by omega, n + 2, nI_add n 2, by omega, by omega, n + 3, nI_add n 3, by omega, by omega, n + 4, nI_add n 4, by omega, by omega, n + 5, nI_add n 5, by omega, by omega, fun F hF => ?_⟩
  have main : ∀ f, f ≤ 1 → (∀ {K : Int32 → Prop}, K (nI f) → ((xs (n + 5) = 0 → K (0 : Int32)) ∧ (¬ (xs (n + 5) = 0) → K (1 : Int32)))) → F (nI f) := by
    intro f hf pick
    refine hF _ ⟨by omega, by omega, t_7 r w, ?_⟩
    rcases NL_or (N := 10) (by omega) (xs (n + 1)) with ⟨k, hk, e⟩ | q
    · rw [e]
      by_cases hr : NR (xs (n + 2)) 0 4 ∨ NR (xs (n + 3)) 0 255 ∨ NR (xs (n + 4)) 0 255
      · refine c_kind2 r w hk hr (Or.inr (Or.inl ⟨rfl, n + 1, nI_1 n, by omega, by omega, n + 2, nI_add n 2, by omega, by omega, n + 3, nI_add n 3, by omega, by omega, n + 4, nI_add n 4, by omega, by omega, n + 5, nI_add n 5, by omega, by omega, fun H hH => pick (hH _ ?_)⟩))
        rw [e]
        exact ⟨t_8 r w, q_kindN2 r w hk hr (fun h2 r2 => tailK (k := 2) r2 w up_eq (fin _ _ (close0 r2 we hP rfl rfl rfl) (Nat.le_refl _)))⟩
      · obtain ⟨s, -, hs, e2⟩ := (NR_or (a := 0) (b := 4) (by decide) (by decide) (xs (n + 2))).resolve_right (fun z => hr (Or.inl z))
        obtain ⟨a, -, ha, e3⟩ := (NR_or (a := 0) (b := 255) (by decide) (by decide) (xs (n + 3))).resolve_right (fun z => hr (Or.inr (Or.inl z)))
        obtain ⟨b, -, hb, e4⟩ := (NR_or (a := 0) (b := 255) (by decide) (by decide) (xs (n + 4))).resolve_right (fun z => hr (Or.inr (Or.inr z)))
        rw [e2, e3, e4]
        by_cases hN : σ 1 2 2 = 0
        · have st := ST_kind (k := k) (a := a) (b := b) we hs hf
          refine c_kind4 r w hk hs ha hb hf hN (fun h1 r1 => ⟨n + 1, nI_1 n, by omega, by omega, n + 2, nI_add n 2, by omega, by omega, n + 3, nI_add n 3, by omega, by omega, n + 4, nI_add n 4, by omega, by omega, n + 5, nI_add n 5, by omega, by omega, fun H hH => pick (hH _ ?_)⟩)
          rw [e, e2, e3, e4]
          exact ⟨t_8 r1 st.1.1.1.1, q_kindN4 r1 st.1.1.1.1 hk hs ha hb hf hN (fun h2 r2 => tailK (k := 0) r2 st.1.1.1.1 up_eq (fin _ _ (closeS r2 st hP (Nat.zero_le _) rfl rfl rfl) st.2.2))⟩
        · refine c_kind3 r w v hk hs ha hb hN (Or.inr (Or.inr ⟨rfl, n + 1, nI_1 n, by omega, by omega, n + 2, nI_add n 2, by omega, by omega, n + 3, nI_add n 3, by omega, by omega, n + 4, nI_add n 4, by omega, by omega, n + 5, nI_add n 5, by omega, by omega, fun H hH => pick (hH _ ?_)⟩))
          rw [e, e2, e3, e4]
          exact ⟨t_8 r w, q_kindN3 r w v hk hs ha hb hN (fun h2 r2 => tailK (k := 3) r2 w up_eq (fin _ _ (close0 r2 we hP rfl rfl rfl) (Nat.le_refl _)))⟩
    · refine c_kind1 r w q (Or.inl ⟨rfl, n + 1, nI_1 n, by omega, by omega, n + 2, nI_add n 2, by omega, by omega, n + 3, nI_add n 3, by omega, by omega, n + 4, nI_add n 4, by omega, by omega, n + 5, nI_add n 5, by omega, by omega, fun H hH => pick (hH _ ?_)⟩)
      exact ⟨t_8 r w, q_kindN1 r w q (fun h2 r2 => tailK (k := 1) r2 w up_eq (fin _ _ (close0 r2 we hP rfl rfl rfl) (Nat.le_refl _)))⟩
  by_cases z : xs (n + 5) = 0
  · exact ⟨fun _ => main 0 (by decide) (fun hK => ⟨fun _ => hK, fun q => absurd z q⟩), fun q => absurd z q⟩
  · exact ⟨fun q => absurd q z, fun _ => main 1 (by decide) (fun hK => ⟨fun q => absurd q z, fun _ => hK⟩)⟩
end KL
