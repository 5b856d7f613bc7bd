/-! back into the lane; leaving the line -/
theorem lpD {α : Type} {J B : α → Int32 → Prop} (hJ : ∀ x v, B x v → J x v) (N : Nat) (I : Nat → α → Prop) {x : α} (h0 : I N x) (hs : ∀ n x, n ≤ N → I n x → (∀ y m, n = m + 1 → I m y → J y (nI (m + NN))) → B x (nI (n + NN))) : J x (nI (N + NN)) := by
  have H : ∀ n x, n ≤ N → I n x → J x (nI (n + NN)) := by
    intro n
    induction n with
    | zero => exact fun x hn hi => hJ _ _ (hs 0 x hn hi (fun _ m e _ => absurd e (by omega)))
    | succ n ih =>
      intro x hn hi
      refine hJ _ _ (hs (n + 1) x hn hi (fun y m e hi2 => ?_))
      have em : m = n := by omega
      rw [em] at hi2 ⊢
      exact ih y (by omega) hi2
  exact H N x (Nat.le_refl _) h0
theorem nI_dn (m : Nat) : nI (m + 1 + NN) = nI m := by rw [← nI_add]; exact nI_down m
theorem nI_d0 : nI (0 + NN) = nI NN := rfl
theorem NN_lt : (nI NN < nI 0) = True := by simp; decide
def backS (σ : St) (s : Nat) : St := if σ 25 0 s = 0 then σ else if low σ (σ 25 0 s - 1) 10 < s then toLane (clr σ s) (σ 25 0 s - 1) (low σ (σ 25 0 s - 1) 10) else if (s = 6 ∧ ¬ σ 2 (σ 25 0 s - 1) 7 = 0) ∨ (s = 7 ∧ σ 2 (σ 25 0 s - 1) 6 = 0) then up (toLane (clr σ s) (σ 25 0 s - 1) 5) 2 (σ 25 0 s - 1) 7 0 else σ
def backN : Nat → St → St
  | 0, σ => σ
  | n + 1, σ => backN n (backS σ n)
theorem low_le {σ : St} (v : WV σ) {c : Nat} : ∀ n, low σ c n ≤ 8 := by
  intro n
  induction n with
  | zero => exact Nat.le_refl 8
  | succ n ih =>
    have := (v.1 n).1
    unfold low
    split
    · split <;> omega
    · exact ih
/-- what the places' steps leave -/
def HX (σ τ : St) : Prop := WW τ ∧ (∀ i, i ≠ 4 → τ 1 i 2 = σ 1 i 2) ∧ τ 9 5 0 = σ 9 5 0
theorem HX_refl {σ : St} (w : WW σ) : HX σ σ := ⟨w, fun _ _ => rfl, rfl⟩
theorem HX_trans {σ τ υ : St} (a : HX σ τ) (b : HX τ υ) : HX σ υ := ⟨b.1, fun i h => (b.2.1 i h).trans (a.2.1 i h), b.2.2.trans a.2.2⟩
theorem WPk_cong {σ τ : St} (h : WPk σ) (e6 : ∀ p j, τ 6 p j = σ 6 p j) (e24 : ∀ c k, τ 24 c k = σ 24 c k) (e2 : τ 1 2 2 = σ 1 2 2) (e5 : τ 1 5 2 = σ 1 5 2) : WPk τ := by
  refine ⟨fun p => by rw [e6, e6]; exact h.1 p, fun c k hc hk => ?_, fun p hp => by rw [e5] at hp; rw [e6, e2]; exact h.2.2 p hp⟩
  rw [e2] at hc
  rw [e5, e24, lastP_cong (σ := σ) _ (fun p _ j => e6 p j)]
  exact h.2.1 c k hc hk
theorem taF (σ : St) (c s a b k : Nat) (h : a ≠ 1 ∧ a ≠ 2 ∧ a ≠ 9 ∧ a ≠ 10 ∧ a ≠ 11 ∧ a ≠ 26 ∧ a ≠ 27) : toLane σ c s a b k = σ a b k := by
  obtain ⟨h1, h2, h3, h4, h5, h6, h7⟩ := h
  simp [toLane, addS, up, h1, h2, h3, h4, h5, h6, h7]
theorem taS (σ : St) (c s i : Nat) (h : i ≠ 4) : toLane σ c s 1 i 2 = σ 1 i 2 := by simp [toLane, addS, up, h]
theorem taC (σ : St) (c s : Nat) : toLane σ c s 9 5 0 = σ 9 5 0 := by simp [toLane, addS, up]
theorem HX_lane {σ : St} (w : WW σ) {s s2 c : Nat} (e : σ 25 0 s = c + 1) (hs : s2 < 8) : HX σ (toLane (clr σ s) c s2) := by
  obtain ⟨hc, h3, h4⟩ := car_lt w (s := s) (by omega)
  rw [e, Nat.add_sub_cancel] at hc h3 h4
  have n30 := wait_lt w.2.1 hc (by omega)
  have c30 := w.1.2.1.2.2.2.2.1.2.1
  refine ⟨⟨WI_lane (WI_clr w.1) (by rw [cx _ _ _ _ _ (by decide)]; exact hc) hs (by rw [cx _ _ _ _ _ (by decide)]; omega), WL_back w.2.1 e, WPk_cong w.2.2 (fun p j => ?_) (fun c k => ?_) ?_ ?_⟩, fun i h => ?_, ?_⟩
  · rw [taF _ _ _ _ _ _ (by decide), cx _ _ _ _ _ (by decide)]
  · rw [taF _ _ _ _ _ _ (by decide), cx _ _ _ _ _ (by decide)]
  · rw [taS _ _ _ _ (by decide), cx _ _ _ _ _ (by decide)]
  · rw [taS _ _ _ _ (by decide), cx _ _ _ _ _ (by decide)]
  · rw [taS _ _ _ _ h, cx _ _ _ _ _ (by decide)]
  · rw [taC, cx _ _ _ _ _ (by decide)]
theorem HX_backS {σ : St} (w : WW σ) {s : Nat} (hs : s < 8) : HX σ (backS σ s) := by
  unfold backS
  by_cases z : σ 25 0 s = 0
  · rw [if_pos z]; exact HX_refl w
  · rw [if_neg z]
    have e : σ 25 0 s = (σ 25 0 s - 1) + 1 := by omega
    obtain ⟨hc, h3, h4⟩ := car_lt w z
    by_cases q : low σ (σ 25 0 s - 1) 10 < s
    · rw [if_pos q]; exact HX_lane w e (by omega)
    · rw [if_neg q]
      by_cases q2 : (s = 6 ∧ ¬ σ 2 (σ 25 0 s - 1) 7 = 0) ∨ (s = 7 ∧ σ 2 (σ 25 0 s - 1) 6 = 0)
      · rw [if_pos q2]
        have g := HX_lane w (s2 := 5) e (by decide)
        have gc : toLane (clr σ s) (σ 25 0 s - 1) 5 1 2 2 = σ 1 2 2 := g.2.1 2 (by decide)
        refine HX_trans g ⟨WW_up g.1 (by simp [okU, gc]; exact hc) (by simp), fun i h => by simp [up], by simp [up]⟩
      · rw [if_neg q2]; exact HX_refl w
section LB
variable {dE : Nat} {ad : Nat → Nat → Nat} {ρ : St} {μ : Mu} {h : Hp}
theorem p_must (r : RR dE ad ρ μ h) (ww : WW ρ) {c s : Nat} (hc : c < ρ 1 2 2) (hs : s < 8) (e4 : ρ 2 c 4 = s) {post : Int32 → Prop} (hp : ∀ b : Bool, (b = true ↔ ((s = 6 ∧ ¬ ρ 2 c 7 = 0) ∨ (s = 7 ∧ ρ 2 c 6 = 0))) → post (nI b.toNat)) : wp_X5_mustBeFlashedAgain h (ad 2 c) post := by
  have w := ww.1.1
  have v := ww.1.2.1
  have b6 := (v.2.2.1 c).2.1
  have b7 := (v.2.2.1 c).2.2.1
  unfold wp_X5_mustBeFlashedAgain
  simp (disch := omega) only [l0, l1, l2, l3, l4, l5, l6, l7, l8, l10, l20, l30, l40, l50, l99, l255, lm1, ex_nI, nI_add, nI_leI, nI_ltI, nI_eq, nI_eqNN, nI_NNeq, tN0, exists_eq_left', exists_eq_left, forall_eq, true_and, and_true, Option.some.injEq, reduceCtorEq, false_implies, implies_true, forall_const, not_false_eq_true, not_true_eq_false, lm1', l9, nI_mul, nI_subN, t_2 r w hc, i_2_4 r w hc, e4, i_2_6 r w hc, i_2_7 r w hc]
  intro J hJ K hK L hL
  have no : ¬ ((s = 6 ∧ ¬ ρ 2 c 7 = 0) ∨ (s = 7 ∧ ρ 2 c 6 = 0)) → J (nI 0) := fun q => hJ _ ⟨b01_b false, hp false ⟨fun z => (by cases z), fun z => absurd z q⟩⟩
  have yes : ((s = 6 ∧ ¬ ρ 2 c 7 = 0) ∨ (s = 7 ∧ ρ 2 c 6 = 0)) → K := fun q => hK (hJ _ ⟨b01_b true, hp true ⟨fun _ => q, fun _ => rfl⟩⟩)
  have l7 : ¬ (s = 6 ∧ ¬ ρ 2 c 7 = 0) → L := fun q => hL (fun M hM => ⟨fun s7 => ⟨fun e6 => yes (Or.inr ⟨s7, e6⟩), fun e6 => hM (no (fun z => z.elim q (fun z => e6 z.2)))⟩, fun s7 => hM (no (fun z => z.elim q (fun z => s7 z.1)))⟩)
  exact ⟨fun s6 => ⟨fun e7 => l7 (fun z => z.2 e7), fun e7 => yes (Or.inl ⟨s6, e7⟩)⟩, fun s6 => l7 (fun z => s6 z.1)⟩
theorem p_sendBack (r : RR dE ad ρ μ h) (ww : WW ρ) {s : Nat} (hs : s < 8) (z : ρ 25 0 s ≠ 0) {post : Hp → Prop} (hp : ∀ ad' h', AG ad ad' → RR dE ad' (backS ρ s) μ h' → post h') : wp_X5_sendBack dE h (ad 7 0) (ad 2 (ρ 25 0 s - 1)) post := by
  have w := ww.1.1
  have v := ww.1.2.1
  obtain ⟨hc, e3, e4⟩ := car_lt ww z
  have e : ρ 25 0 s = (ρ 25 0 s - 1) + 1 := by omega
  have n30 := wait_lt ww.2.1 hc (by omega)
  have c30 := v.2.2.2.2.1.2.1
  have cO := ww.1.2.2.2.1.1 4 (by decide) (by decide)
  obtain ⟨k1, -, -⟩ := capA_le cO (show ρ 1 4 2 < 40 by omega)
  have cp : ρ 9 4 0 = 0 ∨ 10 ≤ ρ 9 4 0 := by unfold capO at cO; omega
  have l8 := low_le v (c := ρ 25 0 s - 1) 10
  unfold wp_X5_sendBack
  refine ⟨t_7 r w, p_low r w v hc ?_⟩
  simp (disch := omega) only [l0, l1, l2, l3, l4, l5, l6, l7, l8, l10, l20, l30, l40, l50, l99, l255, lm1, ex_nI, nI_add, nI_leI, nI_ltI, nI_eq, nI_eqNN, nI_NNeq, tN0, exists_eq_left', exists_eq_left, forall_eq, true_and, and_true, Option.some.injEq, reduceCtorEq, false_implies, implies_true, forall_const, not_false_eq_true, not_true_eq_false, lm1', l9, nI_mul, nI_subN, t_2 r w hc, i_2_4 r w hc, e4]
  intro J hJ
  refine ⟨fun q => p_must r ww hc hs e4 (fun b hb => ?_), fun q => ?_⟩
  · simp (disch := omega) only [l0, l1, l2, l3, l4, l5, l6, l7, l8, l10, l20, l30, l40, l50, l99, l255, lm1, ex_nI, nI_add, nI_leI, nI_ltI, nI_eq, nI_eqNN, nI_NNeq, tN0, exists_eq_left', exists_eq_left, forall_eq, true_and, and_true, Option.some.injEq, reduceCtorEq, false_implies, implies_true, forall_const, not_false_eq_true, not_true_eq_false, lm1', l9, nI_mul, nI_subN, ]
    refine ⟨fun eb => hJ _ (hp ad h AG_refl ?_), fun eb => ?_⟩
    · rw [backS, if_neg z, if_neg (by omega), if_neg (fun y => by have := hb.mpr y; rw [eb] at this; cases this)]
      exact r
    · have y := hb.mp (by simpa using eb)
      refine p_enterLane r w hc e3 e4 hs cp k1 (fun ad' h' ha r' => ?_)
      have g := HX_lane ww (s2 := 5) e (by decide)
      have gc : toLane (clr ρ s) (ρ 25 0 s - 1) 5 1 2 2 = ρ 1 2 2 := g.2.1 2 (by decide)
      have a2 : ad' 2 (ρ 25 0 s - 1) = ad 2 (ρ 25 0 s - 1) := ha _ _ (by decide)
      rw [← a2]
      have vc : V (toLane (clr ρ s) (ρ 25 0 s - 1) 5) 2 (ρ 25 0 s - 1) := (g.1.1.1.2.2.2.2.2.1 _).1.mpr (by rw [gc]; exact hc)
      refine ⟨r'.tag vc, hJ _ (hp ad' _ (fun t j n _ => ha t j n) ?_)⟩
      rw [backS, if_neg z, if_neg (by omega), if_pos y]
      exact r'.setI (v := 0) vc rfl (by decide)
  · refine p_enterLane r w hc e3 e4 hs cp k1 (fun ad' h' ha r' => hJ _ (hp ad' h' (fun t j n _ => ha t j n) ?_))
    rw [backS, if_neg z, if_pos (by omega)]
    exact r'
theorem p_sendBackToLane (r : RR dE ad ρ μ h) (ww : WW ρ) {mc ms : Nat} (h1 : 8 ≤ mc) (h2 : 392 ≤ ms) {post : Hp → Prop} (hp : ∀ ad' h', AG ad ad' → HX ρ (backN 8 ρ) → RR dE ad' (backN 8 ρ) μ h' → post h') : wp_X5_sendBackToLane dE mc ms h (ad 7 0) post := by
  unfold wp_X5_sendBackToLane
  intro J hJ
  have e7 : (7 : Int32) = nI (8 + NN) := by decide
  rw [e7]
  refine lpD (J := fun (x : Hp × Nat × Nat) v => J v x.1 x.2.1 x.2.2) (x := (h, 0, 0)) (fun x v hb => hJ v x.1 x.2.1 x.2.2 hb) 8 (fun n x => ∃ ad' τ, AG ad ad' ∧ RR dE ad' τ μ x.1 ∧ HX ρ τ ∧ backN n τ = backN 8 ρ ∧ x.2.1 + n ≤ 8 ∧ x.2.2 + 49 * n ≤ 392) ⟨ad, ρ, AG_refl, r, HX_refl ww, rfl, Nat.le_refl _, Nat.le_refl _⟩ (fun n x hn e hst => ?_)
  obtain ⟨h', c2, s2⟩ := x
  obtain ⟨ad', τ, ag, r', hx, eN, bc, bs⟩ := e
  have bc : c2 + n ≤ 8 := bc
  have bs : s2 + 49 * n ≤ 392 := bs
  have r' : RR dE ad' τ μ h' := r'
  have a7 : ad' 7 0 = ad 7 0 := ag 7 0 (by decide) (by decide)
  cases n with
  | zero =>
    rw [nI_d0]
    simp (disch := omega) only [l0, l1, l2, l3, l4, l5, l6, l7, l8, l10, l20, l30, l40, l50, l99, l255, lm1, ex_nI, nI_add, nI_leI, nI_ltI, nI_eq, nI_eqNN, nI_NNeq, tN0, exists_eq_left', exists_eq_left, forall_eq, true_and, and_true, Option.some.injEq, reduceCtorEq, false_implies, implies_true, forall_const, not_false_eq_true, not_true_eq_false, lm1', l9, nI_mul, nI_subN, NN_lt]
    exact hp ad' h' ag (by rw [← eN]; exact hx) (by rw [← eN]; exact r')
  | succ m =>
    rw [nI_dn, ← a7]
    have wt := hx.1
    have w := wt.1.1
    have hm : m < 8 := by omega
    have stp : backN (m + 1) τ = backN m (backS τ m) := rfl
    have fin : ∀ ad2 h2 a b, AG ad' ad2 → RR dE ad2 (backS τ m) μ h2 → a ≤ c2 + 1 → b ≤ s2 + 49 → J (nI (m + NN)) h2 a b := fun ad2 h2 a b ag2 r2 ha hbb => hst (h2, a, b) m rfl ⟨ad2, backS τ m, AG_trans ag ag2, r2, HX_trans hx (HX_backS wt hm), by rw [← stp]; exact eN, by show a + m ≤ 8; omega, by show b + 49 * m ≤ 392; omega⟩
    by_cases z : τ 25 0 m = 0
    · simp (disch := omega) only [l0, l1, l2, l3, l4, l5, l6, l7, l8, l10, l20, l30, l40, l50, l99, l255, lm1, ex_nI, nI_add, nI_leI, nI_ltI, nI_eq, nI_eqNN, nI_NNeq, tN0, exists_eq_left', exists_eq_left, forall_eq, true_and, and_true, Option.some.injEq, reduceCtorEq, false_implies, implies_true, forall_const, not_false_eq_true, not_true_eq_false, lm1', l9, nI_mul, nI_subN, t_7 r' w, r_7_6 r' w, t_25 r' w, n_25 r' w, r_25 r' w, am0 z, hm, Nat.not_lt_zero]
      intro K hK
      exact hK _ _ _ (fin ad' h' _ _ AG_refl (by rw [backS, if_pos z]; exact r') (by omega) (by omega))
    · have z1 : am ad' (orl 2 (τ 25 0 m)) = some (ad' 2 (τ 25 0 m - 1)) := am1 z
      simp (disch := omega) only [l0, l1, l2, l3, l4, l5, l6, l7, l8, l10, l20, l30, l40, l50, l99, l255, lm1, ex_nI, nI_add, nI_leI, nI_ltI, nI_eq, nI_eqNN, nI_NNeq, tN0, exists_eq_left', exists_eq_left, forall_eq, true_and, and_true, Option.some.injEq, reduceCtorEq, false_implies, implies_true, forall_const, not_false_eq_true, not_true_eq_false, lm1', l9, nI_mul, nI_subN, t_7 r' w, r_7_6 r' w, t_25 r' w, n_25 r' w, r_25 r' w, z1, hm, Nat.not_lt_zero, forall_eq']
      intro K hK
      exact ⟨by omega, by omega, p_sendBack r' wt hm z (fun ad2 h2' ag2 r2 => hK _ _ _ (fin ad2 h2' _ _ ag2 r2 (Nat.le_refl _) (Nat.le_refl _)))⟩
end LB
