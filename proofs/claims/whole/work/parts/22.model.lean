/-! the Model's questions, told by the state -/
theorem lm1' : (-nI 1 : Int32) = nI NN := by decide
theorem l9 : (9 : Int32) = nI 9 := rfl
theorem d10 {c k : Nat} (hk : k < 10) : (10 * c + k) / 10 = c := by omega
theorem m10 {c k : Nat} (hk : k < 10) : (10 * c + k) % 10 = k := by omega
theorem d30 {c k : Nat} (hk : k < 30) : (30 * c + k) / 30 = c := by omega
theorem m30 {c k : Nat} (hk : k < 30) : (30 * c + k) % 30 = k := by omega
section MQ
variable {dE : Nat} {ad : Nat → Nat → Nat} {ρ μ : St} {h : Hp}

theorem q_need (r : RR dE ad ρ μ h) (w : WA ρ) (v : WV μ) {c k : Nat} (hc : c < 30) (hk : k < 10) {post : Int32 → Prop} (hp : ∀ b, b = need μ c k → post (nI b.toNat)) : wp_X6_doesNeed h (ad 8 0) (nI c) (nI k) post := by
  unfold wp_X6_doesNeed
  simp (disch := omega) only [l0, l1, l2, l3, l4, l5, l6, l7, l8, l10, l20, l30, l40, l50, l99, l255, lm1, ex_nI, nI_add, nI_leI, nI_ltI, nI_eq, nI_eqNN, nI_NNeq, tN0, exists_eq_left', exists_eq_left, forall_eq, true_and, and_true, Option.some.injEq, reduceCtorEq, false_implies, implies_true, forall_const, not_false_eq_true, not_true_eq_false, lm1', l9, nI_mul, nI_subN, d10, m10, d30, m30, t_8 r w, hk, hc, t_41 r w, n_41 r w, r_8_11 r w, a_41 r w, t_32 r w, n_32 r w, r_8_2 r w, a_32 r w, t_33 r w, n_33 r w, r_8_3 r w, a_33 r w]
  intro J hJ K hK
  refine ⟨fun e1 => ⟨fun e2 => hJ _ ⟨b01_b true, hp true ?_⟩, fun e2 => hK (hJ _ ⟨b01_b false, hp false ?_⟩)⟩, fun e1 => hK (hJ _ ⟨b01_b false, hp false ?_⟩)⟩
  · simp [need, e1, e2]
  · simp [need, e1, e2]
  · simp [need, e1]
theorem q_lack (r : RR dE ad ρ μ h) (w : WA ρ) (v : WV μ) {c k : Nat} (hc : c < 30) (hk : k < 10) {post : Int32 → Prop} (hp : ∀ b, b = lack μ c k → post (nI b.toNat)) : wp_X6_doesLack h (ad 8 0) (nI c) (nI k) post := by
  have h300 : 10 * c + k < 300 := by omega
  have hl : μ 24 c k ≤ μ 1 1 2 := v.2.2.2.2.2.2.2.2.1 c k
  have h40 := v.2.2.2.2.1.1
  unfold wp_X6_doesLack
  simp (disch := omega) only [l0, l1, l2, l3, l4, l5, l6, l7, l8, l10, l20, l30, l40, l50, l99, l255, lm1, ex_nI, nI_add, nI_leI, nI_ltI, nI_eq, nI_eqNN, nI_NNeq, tN0, exists_eq_left', exists_eq_left, forall_eq, true_and, and_true, Option.some.injEq, reduceCtorEq, false_implies, implies_true, forall_const, not_false_eq_true, not_true_eq_false, lm1', l9, nI_mul, nI_subN, d10, m10, d30, m30, t_8 r w, h300, t_44 r w, n_44 r w, r_8_14 r w, a_44 r w]
  refine q_need r w v hc hk (fun b hb => ?_)
  by_cases z : μ 24 c k = 0
  · simp (disch := omega) only [l0, l1, l2, l3, l4, l5, l6, l7, l8, l10, l20, l30, l40, l50, l99, l255, lm1, ex_nI, nI_add, nI_leI, nI_ltI, nI_eq, nI_eqNN, nI_NNeq, tN0, exists_eq_left', exists_eq_left, forall_eq, true_and, and_true, Option.some.injEq, reduceCtorEq, false_implies, implies_true, forall_const, not_false_eq_true, not_true_eq_false, lm1', l9, nI_mul, nI_subN, d10, m10, d30, m30, z]
    intro J hJ K hK
    refine ⟨fun e => hK (hJ _ ⟨b01_b false, hp false ?_⟩), fun e L hL => hL (hJ _ ⟨b01_b true, hp true ?_⟩)⟩
    · simp [lack, ← hb, e]
    · have e1 : b = true := by simpa using e
      simp [lack, ← hb, e1, good, z]
  · have h4 := (v.2.1 (μ 24 c k - 1)).2.2.2
    have hlt : μ 24 c k - 1 < 40 := by omega
    simp (disch := omega) only [l0, l1, l2, l3, l4, l5, l6, l7, l8, l10, l20, l30, l40, l50, l99, l255, lm1, ex_nI, nI_add, nI_leI, nI_ltI, nI_eq, nI_eqNN, nI_NNeq, tN0, exists_eq_left', exists_eq_left, forall_eq, true_and, and_true, Option.some.injEq, reduceCtorEq, false_implies, implies_true, forall_const, not_false_eq_true, not_true_eq_false, lm1', l9, nI_mul, nI_subN, d10, m10, d30, m30, z, hlt, t_8 r w, t_39 r w, n_39 r w, r_8_9 r w, a_39 r w]
    intro J hJ K hK
    refine ⟨fun e => hK (hJ _ ⟨b01_b false, hp false ?_⟩), fun e L hL => ⟨fun e2 => hK (hJ _ ⟨b01_b false, hp false ?_⟩), fun e2 => hL (hJ _ ⟨b01_b true, hp true ?_⟩)⟩⟩
    · simp [lack, ← hb, e]
    · have e1 : b = true := by simpa using e
      simp [lack, ← hb, e1, good, z, e2]
    · have e1 : b = true := by simpa using e
      simp [lack, ← hb, e1, good, z, e2]
theorem q_mask (r : RR dE ad ρ μ h) (w : WA ρ) (v : WV μ) {c : Nat} (hc : c < 30) {post : Int32 → Prop} (hp : post (setI (lack μ c) 10)) : wp_X6_lacked h (ad 8 0) (nI c) post := by
  unfold wp_X6_lacked
  intro J hJ
  refine lpA (J := J) hJ 10 (fun k x => x = setI (lack μ c) k) rfl (fun k x hk e hs => ?_)
  subst e
  by_cases hk : k < 10
  · have h10 : ¬ (10 ≤ k) := by omega
    simp (disch := omega) only [l0, l1, l2, l3, l4, l5, l6, l7, l8, l10, l20, l30, l40, l50, l99, l255, lm1, ex_nI, nI_add, nI_leI, nI_ltI, nI_eq, nI_eqNN, nI_NNeq, tN0, exists_eq_left', exists_eq_left, forall_eq, true_and, and_true, Option.some.injEq, reduceCtorEq, false_implies, implies_true, forall_const, not_false_eq_true, not_true_eq_false, lm1', l9, nI_mul, nI_subN, d10, m10, d30, m30, t_8 r w, h10]
    refine q_lack r w v hc hk (fun b hb => ?_)
    simp (disch := omega) only [l0, l1, l2, l3, l4, l5, l6, l7, l8, l10, l20, l30, l40, l50, l99, l255, lm1, ex_nI, nI_add, nI_leI, nI_ltI, nI_eq, nI_eqNN, nI_NNeq, tN0, exists_eq_left', exists_eq_left, forall_eq, true_and, and_true, Option.some.injEq, reduceCtorEq, false_implies, implies_true, forall_const, not_false_eq_true, not_true_eq_false, lm1', l9, nI_mul, nI_subN, d10, m10, d30, m30, ]
    intro K hK
    refine ⟨fun e => hK _ (hs _ hk ?_), fun e => hK _ (hs _ hk ?_)⟩
    · rw [setI, if_neg (by rw [← hb, e]; decide), ← l0, Int32.or_zero]
    · rw [setI, if_pos (by rw [← hb]; simpa using e)]
  · have h10 : 10 ≤ k := by omega
    have : k = 10 := by omega
    subst this
    simp (disch := omega) only [l0, l1, l2, l3, l4, l5, l6, l7, l8, l10, l20, l30, l40, l50, l99, l255, lm1, ex_nI, nI_add, nI_leI, nI_ltI, nI_eq, nI_eqNN, nI_NNeq, tN0, exists_eq_left', exists_eq_left, forall_eq, true_and, and_true, Option.some.injEq, reduceCtorEq, false_implies, implies_true, forall_const, not_false_eq_true, not_true_eq_false, lm1', l9, nI_mul, nI_subN, d10, m10, d30, m30, h10]
    exact hp
theorem q_lay (r : RR dE ad ρ μ h) (w : WA ρ) (v : WV μ) {c : Nat} (hc : c < 30) {post : Hp → Prop} (hp : ∀ h', RR dE ad ρ μ h' → (∀ k, k < 10 → hI h' (ad 56 0) k = nI (sv μ c k)) → post h') : wp_X6_layContents h (ad 8 0) (nI c) post := by
  unfold wp_X6_layContents
  intro J hJ
  refine lpA (J := fun x v => J v x) (fun x v hb => hJ v x hb) 10 (fun k x => RR dE ad ρ μ x ∧ ∀ i, i < k → hI x (ad 56 0) i = nI (sv μ c i)) ⟨r, fun i hi => absurd hi (Nat.not_lt_zero i)⟩ (fun k x hk e hs => ?_)
  clear r
  obtain ⟨r, e⟩ := e
  by_cases hk : k < 10
  · have h10 : ¬ (10 ≤ k) := by omega
    have h300 : 10 * c + k < 300 := by omega
    have hl : μ 24 c k ≤ μ 1 1 2 := v.2.2.2.2.2.2.2.2.1 c k
    have h40 := v.2.2.2.2.1.1
    have h3 := (v.1 k).2
    have go : ∀ y, nI (sv μ c k) = y → J (nI (k + 1)) (sI x (ad 56 0) k y) := by
      intro y ey
      refine hs _ hk ⟨r.rawC (w.2.2.2.1 56 rfl).1, fun i hi => ?_⟩
      rw [hI_sI]
      by_cases hik : i = k
      · rw [if_pos ⟨rfl, hik⟩, hik, ey]
      · rw [if_neg (fun q => hik q.2)]
        exact e i (by omega)
    by_cases z : μ 24 c k = 0
    · simp (disch := omega) only [l0, l1, l2, l3, l4, l5, l6, l7, l8, l10, l20, l30, l40, l50, l99, l255, lm1, ex_nI, nI_add, nI_leI, nI_ltI, nI_eq, nI_eqNN, nI_NNeq, tN0, exists_eq_left', exists_eq_left, forall_eq, true_and, and_true, Option.some.injEq, reduceCtorEq, false_implies, implies_true, forall_const, not_false_eq_true, not_true_eq_false, lm1', l9, nI_mul, nI_subN, d10, m10, d30, m30, t_8 r w, h10, h300, hk, z, t_44 r w, n_44 r w, r_8_14 r w, a_44 r w, t_56 r w, n_56 r w, r_8_26 r w, t_34 r w, n_34 r w, r_8_4 r w, a_34 r w]
      intro K hK L hL
      have : L := hL (hK _ (go _ (by rw [sv, if_pos (Or.inl z)])))
      simpa using this
    · have hlt : μ 24 c k - 1 < 40 := by omega
      have z0 : ¬ (μ 24 c k ≤ 0) := by omega
      simp (disch := omega) only [l0, l1, l2, l3, l4, l5, l6, l7, l8, l10, l20, l30, l40, l50, l99, l255, lm1, ex_nI, nI_add, nI_leI, nI_ltI, nI_eq, nI_eqNN, nI_NNeq, tN0, exists_eq_left', exists_eq_left, forall_eq, true_and, and_true, Option.some.injEq, reduceCtorEq, false_implies, implies_true, forall_const, not_false_eq_true, not_true_eq_false, lm1', l9, nI_mul, nI_subN, d10, m10, d30, m30, t_8 r w, h10, h300, hk, z, z0, hlt, t_44 r w, n_44 r w, r_8_14 r w, a_44 r w, t_56 r w, n_56 r w, r_8_26 r w, t_34 r w, n_34 r w, r_8_4 r w, a_34 r w, t_37 r w, n_37 r w, r_8_7 r w, a_37 r w]
      intro K hK L hL
      refine ⟨fun e2 => hL (hK _ (go _ (by rw [sv, if_pos (Or.inr e2)]))), fun e2 => hK _ (go _ (by rw [sv, if_neg (fun q => q.elim z e2)]))⟩
  · have h10 : 10 ≤ k := by omega
    simp (disch := omega) only [l0, l1, l2, l3, l4, l5, l6, l7, l8, l10, l20, l30, l40, l50, l99, l255, lm1, ex_nI, nI_add, nI_leI, nI_ltI, nI_eq, nI_eqNN, nI_NNeq, tN0, exists_eq_left', exists_eq_left, forall_eq, true_and, and_true, Option.some.injEq, reduceCtorEq, false_implies, implies_true, forall_const, not_false_eq_true, not_true_eq_false, lm1', l9, nI_mul, nI_subN, d10, m10, d30, m30, h10]
    exact hp x r (fun i hi => e i (by omega))
theorem q_built (r : RR dE ad ρ μ h) (w : WA ρ) (v : WV μ) {n c : Nat} (hn : n < 40) (hc : ∀ k, k < 10 → hI h (ad 56 0) k = nI (sv μ c k)) {post : Int32 → Prop} (hp : ∀ b, b = built μ n c → post (nI b.toNat)) : wp_X6_isOfContents h (ad 8 0) (nI n) post := by
  unfold wp_X6_isOfContents
  intro J hJ
  refine lpA (J := J) hJ 10 (fun k x => (x = nI 1 ∧ ∀ i, i < k → μ 19 n i = sv μ c i) ∨ (x = nI 0 ∧ ∃ i, i < k ∧ i < 10 ∧ μ 19 n i ≠ sv μ c i)) (Or.inl ⟨rfl, fun i hi => absurd hi (Nat.not_lt_zero i)⟩) (fun k x hk e hs => ?_)
  by_cases hk : k < 10
  · have h10 : ¬ (10 ≤ k) := by omega
    have h400 : 10 * n + k < 400 := by omega
    have b1 := v.2.2.2.1 n k
    have b2 : sv μ c k < 100 := by
      unfold sv
      split
      · omega
      · exact (v.2.1 _).2.1
    have n10 : nI 1 = nI 0 ↔ False := by decide
    rcases e with ⟨rfl, e⟩ | ⟨rfl, i, i1, i2, e⟩
    · simp (disch := omega) only [l0, l1, l2, l3, l4, l5, l6, l7, l8, l10, l20, l30, l40, l50, l99, l255, lm1, ex_nI, nI_add, nI_leI, nI_ltI, nI_eq, nI_eqNN, nI_NNeq, tN0, exists_eq_left', exists_eq_left, forall_eq, true_and, and_true, Option.some.injEq, reduceCtorEq, false_implies, implies_true, forall_const, not_false_eq_true, not_true_eq_false, lm1', l9, nI_mul, nI_subN, d10, m10, d30, m30, t_8 r w, h10, h400, hk, hc k hk, n10, t_54 r w, n_54 r w, r_8_24 r w, a_54 r w, t_56 r w, n_56 r w, r_8_26 r w]
      intro K hK L hL
      refine ⟨fun e2 => hK _ (hs _ hk (Or.inl ⟨rfl, fun i hi => ?_⟩)), fun e2 => hL (hK _ (hs _ hk (Or.inr ⟨rfl, k, by omega, hk, e2⟩)))⟩
      by_cases hik : i = k
      · rw [hik]; exact e2
      · exact e i (by omega)
    · simp (disch := omega) only [l0, l1, l2, l3, l4, l5, l6, l7, l8, l10, l20, l30, l40, l50, l99, l255, lm1, ex_nI, nI_add, nI_leI, nI_ltI, nI_eq, nI_eqNN, nI_NNeq, tN0, exists_eq_left', exists_eq_left, forall_eq, true_and, and_true, Option.some.injEq, reduceCtorEq, false_implies, implies_true, forall_const, not_false_eq_true, not_true_eq_false, lm1', l9, nI_mul, nI_subN, d10, m10, d30, m30, t_8 r w, h10]
      intro K hK L hL
      exact hL (hK _ (hs _ hk (Or.inr ⟨rfl, i, by omega, i2, e⟩)))
  · have h10 : 10 ≤ k := by omega
    simp (disch := omega) only [l0, l1, l2, l3, l4, l5, l6, l7, l8, l10, l20, l30, l40, l50, l99, l255, lm1, ex_nI, nI_add, nI_leI, nI_ltI, nI_eq, nI_eqNN, nI_NNeq, tN0, exists_eq_left', exists_eq_left, forall_eq, true_and, and_true, Option.some.injEq, reduceCtorEq, false_implies, implies_true, forall_const, not_false_eq_true, not_true_eq_false, lm1', l9, nI_mul, nI_subN, d10, m10, d30, m30, h10]
    rcases e with ⟨rfl, e⟩ | ⟨rfl, i, i1, i2, e⟩
    · exact ⟨b01_b true, hp true (all10_t (fun i hi => by simp [e i (by omega)]))⟩
    · exact ⟨b01_b false, hp false (all10_f i2 (by simp [e]))⟩
/-- what is signed -/
def WSg (σ : St) : Prop := ∀ n c, c < 30 → σ 28 n c ≤ 1 ∧ sgnd σ n c = decide (σ 28 n c ≠ 0)
theorem q_fits (r : RR dE ad ρ μ h) (w : WA ρ) (v : WV μ) (s : WSg μ) {c : Nat} (hc : c < 30) {post : Int32 → Hp → Prop} (hp : ∀ b h', b = fitsS μ c → RR dE ad ρ μ h' → post (nI b.toNat) h') : wp_X6_fits h (ad 8 0) (nI c) post := by
  have hl : μ 2 c 5 ≤ μ 1 3 2 := v.2.2.2.2.2.2.2.2.2.1 c
  have h40 := v.2.2.2.2.1.2.2.1
  have n10 : nI 1 = nI 0 ↔ False := by decide
  unfold wp_X6_fits
  simp (disch := omega) only [l0, l1, l2, l3, l4, l5, l6, l7, l8, l10, l20, l30, l40, l50, l99, l255, lm1, ex_nI, nI_add, nI_leI, nI_ltI, nI_eq, nI_eqNN, nI_NNeq, tN0, exists_eq_left', exists_eq_left, forall_eq, true_and, and_true, Option.some.injEq, reduceCtorEq, false_implies, implies_true, forall_const, not_false_eq_true, not_true_eq_false, lm1', l9, nI_mul, nI_subN, d10, m10, d30, m30, t_8 r w, hc, t_45 r w, n_45 r w, r_8_15 r w, a_45 r w]
  intro J14 hJ14
  have main : ∀ x, ((x = nI 1 ∧ μ 2 c 5 ≠ 0) ∨ (x = nI 0 ∧ fitsS μ c = false)) → J14 x := by
    intro x hx
    refine hJ14 x (fun J hJ => ?_)
    refine lpA (J := J) hJ 10 (fun k x => (x = nI 1 ∧ μ 2 c 5 ≠ 0 ∧ ∀ i, i < k → (!(decide (μ 4 i 3 ≠ 0) && lack μ c i)) = true) ∨ (x = nI 0 ∧ fitsS μ c = false)) (hx.imp (fun q => ⟨q.1, q.2, fun i hi => absurd hi (Nat.not_lt_zero i)⟩) id) (fun k x hk e hs => ?_)
    by_cases hk : k < 10
    · have h10 : ¬ (10 ≤ k) := by omega
      have h3 := (v.1 k).2
      rcases e with ⟨rfl, e0, e⟩ | ⟨rfl, e⟩
      · simp (disch := omega) only [l0, l1, l2, l3, l4, l5, l6, l7, l8, l10, l20, l30, l40, l50, l99, l255, lm1, ex_nI, nI_add, nI_leI, nI_ltI, nI_eq, nI_eqNN, nI_NNeq, tN0, exists_eq_left', exists_eq_left, forall_eq, true_and, and_true, Option.some.injEq, reduceCtorEq, false_implies, implies_true, forall_const, not_false_eq_true, not_true_eq_false, lm1', l9, nI_mul, nI_subN, d10, m10, d30, m30, t_8 r w, h10, hk, n10, t_34 r w, n_34 r w, r_8_4 r w, a_34 r w]
        intro K hK L hL M hM
        have hs2 : (!(decide (μ 4 k 3 ≠ 0) && lack μ c k)) = true → M := fun e2 => hM (hK _ (hs _ hk (Or.inl ⟨rfl, e0, fun i hi => by
          by_cases hik : i = k
          · rw [hik]; exact e2
          · exact e i (by omega)⟩)))
        refine ⟨fun e2 => hs2 (by simp [e2]), fun e2 => q_lack r w v hc hk (fun b hb => ?_)⟩
        simp (disch := omega) only [l0, l1, l2, l3, l4, l5, l6, l7, l8, l10, l20, l30, l40, l50, l99, l255, lm1, ex_nI, nI_add, nI_leI, nI_ltI, nI_eq, nI_eqNN, nI_NNeq, tN0, exists_eq_left', exists_eq_left, forall_eq, true_and, and_true, Option.some.injEq, reduceCtorEq, false_implies, implies_true, forall_const, not_false_eq_true, not_true_eq_false, lm1', l9, nI_mul, nI_subN, d10, m10, d30, m30, ]
        refine ⟨fun e3 => hs2 (by simp [← hb, e3]), fun e3 => hL (hK _ (hs _ hk (Or.inr ⟨rfl, ?_⟩)))⟩
        have : false = all10 (fun k => !(decide (μ 4 k 3 ≠ 0) && lack μ c k)) := all10_f hk (by simp [← hb, e2]; simpa using e3)
        have lsw : lackSw μ c = true := by rw [lackSw, ← this]; rfl
        simp [fitsS, lsw]
      · simp (disch := omega) only [l0, l1, l2, l3, l4, l5, l6, l7, l8, l10, l20, l30, l40, l50, l99, l255, lm1, ex_nI, nI_add, nI_leI, nI_ltI, nI_eq, nI_eqNN, nI_NNeq, tN0, exists_eq_left', exists_eq_left, forall_eq, true_and, and_true, Option.some.injEq, reduceCtorEq, false_implies, implies_true, forall_const, not_false_eq_true, not_true_eq_false, lm1', l9, nI_mul, nI_subN, d10, m10, d30, m30, t_8 r w, h10]
        intro K hK L hL
        exact hL (hK _ (hs _ hk (Or.inr ⟨rfl, e⟩)))
    · have h10 : 10 ≤ k := by omega
      simp (disch := omega) only [l0, l1, l2, l3, l4, l5, l6, l7, l8, l10, l20, l30, l40, l50, l99, l255, lm1, ex_nI, nI_add, nI_leI, nI_ltI, nI_eq, nI_eqNN, nI_NNeq, tN0, exists_eq_left', exists_eq_left, forall_eq, true_and, and_true, Option.some.injEq, reduceCtorEq, false_implies, implies_true, forall_const, not_false_eq_true, not_true_eq_false, lm1', l9, nI_mul, nI_subN, d10, m10, d30, m30, h10]
      refine q_lay r w v hc (fun h' r' hc' => ?_)
      rcases e with ⟨rfl, e0, e⟩ | ⟨rfl, e⟩
      · have hn : μ 2 c 5 - 1 < 40 := by omega
        have h1200 : 30 * (μ 2 c 5 - 1) + c < 1200 := by omega
        obtain ⟨s1, s2⟩ := s (μ 2 c 5 - 1) c hc
        have : true = all10 (fun k => !(decide (μ 4 k 3 ≠ 0) && lack μ c k)) := all10_t (fun i hi => e i (by omega))
        have lsw : lackSw μ c = false := by rw [lackSw, ← this]; rfl
        simp (disch := omega) only [l0, l1, l2, l3, l4, l5, l6, l7, l8, l10, l20, l30, l40, l50, l99, l255, lm1, ex_nI, nI_add, nI_leI, nI_ltI, nI_eq, nI_eqNN, nI_NNeq, tN0, exists_eq_left', exists_eq_left, forall_eq, true_and, and_true, Option.some.injEq, reduceCtorEq, false_implies, implies_true, forall_const, not_false_eq_true, not_true_eq_false, lm1', l9, nI_mul, nI_subN, d10, m10, d30, m30, t_8 r' w, n10, hc, h1200, t_45 r' w, n_45 r' w, r_8_15 r' w, a_45 r' w, t_55 r' w, n_55 r' w, r_8_25 r' w, a_55 r' w]
        intro K hK L hL
        refine ⟨fun e2 => hL (hK _ ⟨b01_b false, hp false _ ?_ r'⟩), fun e2 => q_built r' w v hn hc' (fun b hb => ?_)⟩
        · have : sgnd μ (μ 2 c 5 - 1) c = false := by rw [s2, e2]; rfl
          simp [fitsS, this]
        · have s3 : sgnd μ (μ 2 c 5 - 1) c = true := by rw [s2]; simpa using e2
          simp (disch := omega) only [l0, l1, l2, l3, l4, l5, l6, l7, l8, l10, l20, l30, l40, l50, l99, l255, lm1, ex_nI, nI_add, nI_leI, nI_ltI, nI_eq, nI_eqNN, nI_NNeq, tN0, exists_eq_left', exists_eq_left, forall_eq, true_and, and_true, Option.some.injEq, reduceCtorEq, false_implies, implies_true, forall_const, not_false_eq_true, not_true_eq_false, lm1', l9, nI_mul, nI_subN, d10, m10, d30, m30, ]
          refine ⟨fun e3 => hL (hK _ ⟨b01_b false, hp false _ ?_ r'⟩), fun e3 => hK _ ⟨b01_b true, hp true _ ?_ r'⟩⟩
          · simp [fitsS, ← hb, e3]
          · have e4 : b = true := by simpa using e3
            simp [fitsS, ← hb, e4, s3, lsw, e0]
      · simp (disch := omega) only [l0, l1, l2, l3, l4, l5, l6, l7, l8, l10, l20, l30, l40, l50, l99, l255, lm1, ex_nI, nI_add, nI_leI, nI_ltI, nI_eq, nI_eqNN, nI_NNeq, tN0, exists_eq_left', exists_eq_left, forall_eq, true_and, and_true, Option.some.injEq, reduceCtorEq, false_implies, implies_true, forall_const, not_false_eq_true, not_true_eq_false, lm1', l9, nI_mul, nI_subN, d10, m10, d30, m30, ]
        intro K hK L hL
        exact hL (hK _ ⟨b01_b false, hp false _ e.symm r'⟩)
  refine ⟨fun e => main _ (Or.inr ⟨rfl, ?_⟩), fun e => main _ (Or.inl ⟨rfl, ?_⟩)⟩
  · have : μ 2 c 5 = 0 := by omega
    simp [fitsS, this]
  · omega
theorem q_back (r : RR dE ad ρ μ h) (w : WA ρ) (v : WV μ) {c s : Nat} (hc : c < 30) (hs8 : s < 8) {post : Int32 → Prop} (hp : post (nI (if low μ c 10 < s then low μ c 10 else NN))) : wp_X6_backTo h (ad 8 0) (nI c) (nI s) post := by
  have lo8 : ∀ n, low μ c n ≤ 8 := by
    intro n
    induction n with
    | zero => exact Nat.le_refl 8
    | succ n ih =>
      have := (v.1 n).1
      unfold low
      split
      · split <;> omega
      · exact ih
  unfold wp_X6_backTo
  intro J hJ
  rw [lm1, l0]
  refine lpA (J := J) hJ 10 (fun k x => x = nI (if low μ c k < s then low μ c k else NN)) ?_ (fun k x hk e hs => ?_)
  · show nI NN = nI (if 8 < s then 8 else NN)
    rw [if_neg (by omega)]
  subst e
  by_cases hk : k < 10
  · have h10 : ¬ (10 ≤ k) := by omega
    have l8 := lo8 k
    have s5 := (v.1 k).1
    simp (disch := omega) only [l0, l1, l2, l3, l4, l5, l6, l7, l8, l10, l20, l30, l40, l50, l99, l255, lm1, ex_nI, nI_add, nI_leI, nI_ltI, nI_eq, nI_eqNN, nI_NNeq, tN0, exists_eq_left', exists_eq_left, forall_eq, true_and, and_true, Option.some.injEq, reduceCtorEq, false_implies, implies_true, forall_const, not_false_eq_true, not_true_eq_false, lm1', l9, nI_mul, nI_subN, d10, m10, d30, m30, t_8 r w, h10, hk, t_31 r w, n_31 r w, r_8_1 r w, a_31 r w]
    intro K hK L hL
    have stp : low μ c (k + 1) = if lack μ c k = true then (if μ 4 k 0 < low μ c k then μ 4 k 0 else low μ c k) else low μ c k := rfl
    have keep : (if low μ c (k + 1) < s then low μ c (k + 1) else NN) = (if low μ c k < s then low μ c k else NN) → L := fun e => hL (hK _ (fun M hM N hN => ⟨fun _ => hN (hM _ (hs _ hk (by rw [e]))), fun q => absurd rfl q⟩))
    refine ⟨fun e => keep ?_, fun e => q_lack r w v hc hk (fun b hb => ?_)⟩
    · rw [stp]
      split
      · split
        · rw [if_neg (by omega), if_neg (by omega)]
        · rfl
      · rfl
    · simp (disch := omega) only [l0, l1, l2, l3, l4, l5, l6, l7, l8, l10, l20, l30, l40, l50, l99, l255, lm1, ex_nI, nI_add, nI_leI, nI_ltI, nI_eq, nI_eqNN, nI_NNeq, tN0, exists_eq_left', exists_eq_left, forall_eq, true_and, and_true, Option.some.injEq, reduceCtorEq, false_implies, implies_true, forall_const, not_false_eq_true, not_true_eq_false, lm1', l9, nI_mul, nI_subN, d10, m10, d30, m30, ]
      refine ⟨fun e2 => keep ?_, fun e2 => hK _ (fun M hM N hN => ⟨fun q => absurd q (by decide), fun _ P hP => ?_⟩)⟩
      · have e3 : ¬ lack μ c k = true := by rw [← hb, e2]; decide
        rw [stp, if_neg e3]
      · have e3 : lack μ c k = true := by rw [← hb]; simpa using e2
        rw [if_pos e3] at stp
        by_cases q : low μ c k < s
        · rw [if_pos q]
          simp (disch := omega) only [l0, l1, l2, l3, l4, l5, l6, l7, l8, l10, l20, l30, l40, l50, l99, l255, lm1, ex_nI, nI_add, nI_leI, nI_ltI, nI_eq, nI_eqNN, nI_NNeq, tN0, exists_eq_left', exists_eq_left, forall_eq, true_and, and_true, Option.some.injEq, reduceCtorEq, false_implies, implies_true, forall_const, not_false_eq_true, not_true_eq_false, lm1', l9, nI_mul, nI_subN, d10, m10, d30, m30, ]
          refine ⟨fun e4 => hN (hM _ (hs _ hk ?_)), fun e4 => hP (hM _ (hs _ hk ?_))⟩
          · have s1 : low μ c (k + 1) = low μ c k := by rw [stp, if_neg (by omega)]
            rw [s1, if_pos q]
          · have s1 : low μ c (k + 1) = μ 4 k 0 := by rw [stp, if_pos (by omega)]
            rw [s1, if_pos (by omega)]
        · rw [if_neg q]
          refine ⟨fun _ => hP (hM _ (hs _ hk ?_)), fun q => absurd (by decide) q⟩
          have s1 : low μ c (k + 1) = μ 4 k 0 := by rw [stp, if_pos (by omega)]
          rw [s1, if_pos (by omega)]
  · have h10 : 10 ≤ k := by omega
    have : k = 10 := by omega
    subst this
    simp (disch := omega) only [l0, l1, l2, l3, l4, l5, l6, l7, l8, l10, l20, l30, l40, l50, l99, l255, lm1, ex_nI, nI_add, nI_leI, nI_ltI, nI_eq, nI_eqNN, nI_NNeq, tN0, exists_eq_left', exists_eq_left, forall_eq, true_and, and_true, Option.some.injEq, reduceCtorEq, false_implies, implies_true, forall_const, not_false_eq_true, not_true_eq_false, lm1', l9, nI_mul, nI_subN, d10, m10, d30, m30, h10]
    exact hp
theorem q_done (r : RR dE ad ρ μ h) (w : WA ρ) (v : WV μ) {c s : Nat} (hc : c < 30) (hs8 : s < 7) {post : Int32 → Prop} (hp : ∀ b, b = doneS μ c s → post (nI b.toNat)) : wp_X6_isDone h (ad 8 0) (nI c) (nI s) post := by
  have n10 : nI 1 = nI 0 ↔ False := by decide
  have hl : μ 2 c 5 ≤ μ 1 3 2 := v.2.2.2.2.2.2.2.2.2.1 c
  have h40 := v.2.2.2.2.1.2.2.1
  have h6 := (v.2.2.1 c).2.1
  unfold wp_X6_isDone
  simp (disch := omega) only [l0, l1, l2, l3, l4, l5, l6, l7, l8, l10, l20, l30, l40, l50, l99, l255, lm1, ex_nI, nI_add, nI_leI, nI_ltI, nI_eq, nI_eqNN, nI_NNeq, tN0, exists_eq_left', exists_eq_left, forall_eq, true_and, and_true, Option.some.injEq, reduceCtorEq, false_implies, implies_true, forall_const, not_false_eq_true, not_true_eq_false, lm1', l9, nI_mul, nI_subN, d10, m10, d30, m30, t_8 r w, hc, t_45 r w, n_45 r w, r_8_15 r w, a_45 r w, t_46 r w, n_46 r w, r_8_16 r w, a_46 r w]
  intro J39 hJ39
  have main : ∀ b : Bool, b = (decide (s < 5) || (decide (s = 5) && decide (μ 2 c 5 ≠ 0)) || (decide (s = 6) && decide (μ 2 c 6 ≠ 0))) → J39 (nI b.toNat) := by
    intro b0 hb0
    refine hJ39 _ (fun J hJ => ?_)
    refine lpA (J := J) hJ 10 (fun k x => (x = nI 1 ∧ b0 = true ∧ ∀ i, i < k → (!(decide (μ 4 i 0 = s) && lack μ c i)) = true) ∨ (x = nI 0 ∧ (b0 = false ∨ lackAt μ c s = true))) ?_ (fun k x hk e hs => ?_)
    · cases b0
      · exact Or.inr ⟨rfl, Or.inl rfl⟩
      · exact Or.inl ⟨rfl, rfl, fun i hi => absurd hi (Nat.not_lt_zero i)⟩
    by_cases hk : k < 10
    · have h10 : ¬ (10 ≤ k) := by omega
      have h3 := (v.1 k).1
      rcases e with ⟨rfl, e0, e⟩ | ⟨rfl, e⟩
      · simp (disch := omega) only [l0, l1, l2, l3, l4, l5, l6, l7, l8, l10, l20, l30, l40, l50, l99, l255, lm1, ex_nI, nI_add, nI_leI, nI_ltI, nI_eq, nI_eqNN, nI_NNeq, tN0, exists_eq_left', exists_eq_left, forall_eq, true_and, and_true, Option.some.injEq, reduceCtorEq, false_implies, implies_true, forall_const, not_false_eq_true, not_true_eq_false, lm1', l9, nI_mul, nI_subN, d10, m10, d30, m30, t_8 r w, h10, hk, n10, t_31 r w, n_31 r w, r_8_1 r w, a_31 r w]
        intro K hK L hL M hM
        have hs2 : (!(decide (μ 4 k 0 = s) && lack μ c k)) = true → M := fun e2 => hM (hK _ (hs _ hk (Or.inl ⟨rfl, e0, fun i hi => by
          by_cases hik : i = k
          · rw [hik]; exact e2
          · exact e i (by omega)⟩)))
        refine ⟨fun e2 => q_lack r w v hc hk (fun b hb => ?_), fun e2 => hs2 (by simp [e2])⟩
        simp (disch := omega) only [l0, l1, l2, l3, l4, l5, l6, l7, l8, l10, l20, l30, l40, l50, l99, l255, lm1, ex_nI, nI_add, nI_leI, nI_ltI, nI_eq, nI_eqNN, nI_NNeq, tN0, exists_eq_left', exists_eq_left, forall_eq, true_and, and_true, Option.some.injEq, reduceCtorEq, false_implies, implies_true, forall_const, not_false_eq_true, not_true_eq_false, lm1', l9, nI_mul, nI_subN, d10, m10, d30, m30, ]
        refine ⟨fun e3 => hs2 (by simp [← hb, e3]), fun e3 => hL (hK _ (hs _ hk (Or.inr ⟨rfl, Or.inr ?_⟩)))⟩
        have : false = all10 (fun k => !(decide (μ 4 k 0 = s) && lack μ c k)) := all10_f hk (by simp [← hb, e2]; simpa using e3)
        rw [lackAt, ← this]
        rfl
      · simp (disch := omega) only [l0, l1, l2, l3, l4, l5, l6, l7, l8, l10, l20, l30, l40, l50, l99, l255, lm1, ex_nI, nI_add, nI_leI, nI_ltI, nI_eq, nI_eqNN, nI_NNeq, tN0, exists_eq_left', exists_eq_left, forall_eq, true_and, and_true, Option.some.injEq, reduceCtorEq, false_implies, implies_true, forall_const, not_false_eq_true, not_true_eq_false, lm1', l9, nI_mul, nI_subN, d10, m10, d30, m30, t_8 r w, h10]
        intro K hK L hL
        exact hL (hK _ (hs _ hk (Or.inr ⟨rfl, e⟩)))
    · have h10 : 10 ≤ k := by omega
      simp (disch := omega) only [l0, l1, l2, l3, l4, l5, l6, l7, l8, l10, l20, l30, l40, l50, l99, l255, lm1, ex_nI, nI_add, nI_leI, nI_ltI, nI_eq, nI_eqNN, nI_NNeq, tN0, exists_eq_left', exists_eq_left, forall_eq, true_and, and_true, Option.some.injEq, reduceCtorEq, false_implies, implies_true, forall_const, not_false_eq_true, not_true_eq_false, lm1', l9, nI_mul, nI_subN, d10, m10, d30, m30, h10]
      have hat : ¬ s < 5 → lackAt μ c s = false := by
        intro q
        have : true = all10 (fun k => !(decide (μ 4 k 0 = s) && lack μ c k)) := all10_t (fun i hi => by
          have := (v.1 i).1
          have : ¬ μ 4 i 0 = s := by omega
          simp [this])
        rw [lackAt, ← this]
        rfl
      rcases e with ⟨rfl, e0, e⟩ | ⟨rfl, e⟩
      · refine ⟨b01_b true, hp true ?_⟩
        have : true = all10 (fun k => !(decide (μ 4 k 0 = s) && lack μ c k)) := all10_t (fun i hi => e i (by omega))
        have l2 : lackAt μ c s = false := by rw [lackAt, ← this]; rfl
        rw [e0] at hb0
        unfold doneS
        rw [l2]
        by_cases q6 : s = 6
        · subst q6
          rw [if_pos rfl]
          simpa using hb0
        · rw [if_neg q6]
          by_cases q5 : s = 5
          · subst q5
            rw [if_pos rfl]
            simpa using hb0
          · rw [if_neg q5]
            rfl
      · refine ⟨b01_b false, hp false ?_⟩
        unfold doneS
        by_cases q6 : s = 6
        · subst q6
          rw [if_pos rfl]
          rcases e with e | e
          · rw [e] at hb0
            simpa using hb0
          · rw [hat (by decide)] at e
            cases e
        · rw [if_neg q6]
          by_cases q5 : s = 5
          · subst q5
            rw [if_pos rfl]
            rcases e with e | e
            · rw [e] at hb0
              simpa using hb0
            · rw [hat (by decide)] at e
              cases e
          · rw [if_neg q5]
            rcases e with e | e
            · rw [e] at hb0
              have : s < 5 := by omega
              simp [this] at hb0
            · rw [e]
              rfl
  intro L hL
  refine ⟨fun e => hL (main true (by simp [e])), fun e => fun M hM => ⟨fun e5 => ⟨fun e6 => hL (main true ?_), fun e6 => hM (fun N hN => ⟨fun e7 => ?_, fun _ => hN (main false ?_)⟩)⟩, fun e5 => hM (fun N hN => ⟨fun e6 => ⟨fun e7 => hN (main false ?_), fun e7 => hL (main true ?_)⟩, fun e6 => hN (main false ?_)⟩)⟩⟩
  · have : μ 2 c 5 ≠ 0 := by omega
    simp [e5, this]
  · omega
  · have : μ 2 c 5 = 0 := by omega
    simp [e5, this]
  · simp [e6, e7]
  · simp [e6, e7]
  · have : ¬ s < 5 := e
    simp [this, e5, e6]
end MQ
