/-! the line's work -/
def fitK (σ : St) (c s : Nat) : Nat → St
  | 0 => σ
  | k + 1 => if (fitK σ c s k) 4 k 0 = s ∧ lack (fitK σ c s k) c k = true then fit1 (fitK σ c s k) c k else fitK σ c s k
def kc (σ : St) (s : Nat) (k : Nat) : Nat := cnt (fun k => decide (σ 4 k 0 = s)) k
theorem kc_s {σ : St} {s k : Nat} : kc σ s (k + 1) = kc σ s k + if σ 4 k 0 = s then 1 else 0 := by
  show (if decide (σ 4 k 0 = s) = true then kc σ s k + 1 else kc σ s k) = _
  by_cases e : σ 4 k 0 = s
  · simp [e]
  · simp [e]
theorem kc_le {σ : St} {s : Nat} : ∀ k, kc σ s k ≤ k := by
  intro k
  induction k with
  | zero => exact Nat.le_refl 0
  | succ k ih =>
    rw [kc_s]
    split <;> omega
theorem kc_mono {σ : St} {s : Nat} {k n : Nat} (h : k ≤ n) : kc σ s k ≤ kc σ s n := by
  induction n with
  | zero =>
    have : k = 0 := by omega
    rw [this]; exact Nat.le_refl _
  | succ n ih =>
    by_cases e : k = n + 1
    · rw [e]; exact Nat.le_refl _
    · have := ih (by omega)
      rw [kc_s]
      omega
theorem FX_4 {σ τ : St} {n : Nat} (f : FX σ τ n) (i j : Nat) : τ 4 i j = σ 4 i j := f.2.1 4 i j (by decide) (by decide) (by decide) (by decide) (by decide) (by simp) (by simp) (by simp)
theorem FX_12 {σ τ : St} {n : Nat} (f : FX σ τ n) (i : Nat) (h : i ≠ 5) : τ 1 i 2 = σ 1 i 2 := f.2.1 1 i 2 (by decide) (by decide) (by decide) (by decide) (by decide) (by simp) (by simp) (by simp [h])
theorem FX_25 {σ τ : St} {n : Nat} (f : FX σ τ n) (i j : Nat) : τ 25 i j = σ 25 i j := f.2.1 25 i j (by decide) (by decide) (by decide) (by decide) (by decide) (by simp) (by simp) (by simp)
theorem FX_2 {σ τ : St} {n : Nat} (f : FX σ τ n) (i j : Nat) (h : j ≠ 6) : τ 2 i j = σ 2 i j := f.2.1 2 i j (by decide) (by decide) (by decide) (by decide) (by decide) (by simp [h]) (by simp) (by simp)
theorem FX_fitK {σ : St} (w : WW σ) {c s : Nat} (hc : c < σ 1 2 2) (hb : σ 1 5 2 < 20000000) : ∀ k, k ≤ 10 → FX σ (fitK σ c s k) (2 * kc σ s k) := by
  intro k
  induction k with
  | zero => exact fun _ => FX_mono (FX_refl w) (Nat.zero_le _)
  | succ k ih =>
    intro hk
    have f := ih (by omega)
    have kle := kc_le (σ := σ) (s := s) k
    show FX σ (if (fitK σ c s k) 4 k 0 = s ∧ lack (fitK σ c s k) c k = true then fit1 (fitK σ c s k) c k else fitK σ c s k) _
    by_cases q : (fitK σ c s k) 4 k 0 = s ∧ lack (fitK σ c s k) c k = true
    · rw [if_pos q]
      have e4 : σ 4 k 0 = s := by rw [← FX_4 f]; exact q.1
      have g := FX_fit1 f.1 (c := c) (k := k) (by rw [FX_12 f 2 (by decide)]; exact hc) (by omega) (by have := f.2.2.2.2.1; omega)
      refine FX_mono (FX_trans f g) ?_
      rw [kc_s, if_pos e4]
      omega
    · rw [if_neg q]
      exact FX_mono f (by rw [kc_s]; omega)
theorem fitK_cap {σ : St} (w : WW σ) {c s : Nat} (hc : c < σ 1 2 2) (hb : σ 1 5 2 < 20000000) {k n : Nat} (h : k ≤ n) (hn : n ≤ 10) : fitK σ c s k 9 5 0 ≤ fitK σ c s n 9 5 0 := by
  induction n with
  | zero =>
    have : k = 0 := by omega
    rw [this]; exact Nat.le_refl _
  | succ n ih =>
    by_cases e : k = n + 1
    · rw [e]; exact Nat.le_refl _
    · have h1 := ih (by omega) (by omega)
      have f := FX_fitK w (s := s) hc hb n (by omega)
      have kle := kc_le (σ := σ) (s := s) n
      refine Nat.le_trans h1 ?_
      show _ ≤ (if (fitK σ c s n) 4 n 0 = s ∧ lack (fitK σ c s n) c n = true then fit1 (fitK σ c s n) c n else fitK σ c s n) 9 5 0
      split
      · have g := FX_fit1 f.1 (c := c) (k := n) (by rw [FX_12 f 2 (by decide)]; exact hc) (by omega) (by have := f.2.2.2.2.1; omega)
        exact g.2.2.2.2.2.1
      · exact Nat.le_refl _
def AG (ad ad' : Nat → Nat → Nat) : Prop := ∀ t j, t ≠ 26 → t ≠ 6 → ad' t j = ad t j
theorem AG_refl {ad : Nat → Nat → Nat} : AG ad ad := fun _ _ _ _ => rfl
theorem AG_trans {a b c : Nat → Nat → Nat} (h : AG a b) (g : AG b c) : AG a c := fun t j x y => (g t j x y).trans (h t j x y)
section LK
variable {dE : Nat} {ad : Nat → Nat → Nat} {ρ : St} {μ : Mu} {h : Hp}
theorem p_fitParts (r : RR dE ad ρ μ h) (ww : WW ρ) {c s : Nat} (hc : c < ρ 1 2 2) (hs : s < 5) (e4 : ρ 2 c 4 = s) (hb : ρ 1 5 2 < 20000000) {mc ms : Nat} (h1 : 4 * kc ρ s 10 ≤ mc) (h2 : 6 * kc ρ s 10 + 4 * (fitK ρ c s 10 9 5 0 - ρ 9 5 0) ≤ ms) {post : Hp → Prop} (hp : ∀ ad' h', AG ad ad' → RR dE ad' (fitK ρ c s 10) μ h' → post h') : wp_X5_fitParts dE mc ms h (ad 7 0) (ad 2 c) post := by
  unfold wp_X5_fitParts
  intro J hJ
  refine lpA (J := fun (x : Hp × Nat × Nat) v => J v x.1 x.2.1 x.2.2) (x := (h, 0, 0)) (fun x v hb => hJ v x.1 x.2.1 x.2.2 hb) 10 (fun k x => ∃ ad', AG ad ad' ∧ RR dE ad' (fitK ρ c s k) μ x.1 ∧ x.2.1 ≤ 4 * kc ρ s k ∧ x.2.2 + 4 * ρ 9 5 0 ≤ 6 * kc ρ s k + 4 * (fitK ρ c s k 9 5 0)) ⟨ad, AG_refl, r, Nat.zero_le _, by show 0 + 4 * ρ 9 5 0 ≤ _ + 4 * ρ 9 5 0; omega⟩ (fun k x hk e hst => ?_)
  obtain ⟨h', c2, s2⟩ := x
  obtain ⟨ad', ag, r', bc, bs⟩ := e
  have bc : c2 ≤ 4 * kc ρ s k := bc
  have bs : s2 + 4 * ρ 9 5 0 ≤ 6 * kc ρ s k + 4 * (fitK ρ c s k 9 5 0) := bs
  have r' : RR dE ad' (fitK ρ c s k) μ h' := r'
  have f := FX_fitK ww (s := s) hc hb k hk
  have kle := kc_le (σ := ρ) (s := s) k
  have a7 : ad' 7 0 = ad 7 0 := ag 7 0 (by decide) (by decide)
  have a2 : ad' 2 c = ad 2 c := ag 2 c (by decide) (by decide)
  by_cases hk2 : k < 10
  · have h10 : ¬ (10 ≤ k) := by omega
    have hst' : ∀ y : Hp × Nat × Nat, _ := fun y => hst y hk2
    have stp : fitK ρ c s (k + 1) = if (fitK ρ c s k) 4 k 0 = s ∧ lack (fitK ρ c s k) c k = true then fit1 (fitK ρ c s k) c k else fitK ρ c s k := rfl
    have mono := fitK_cap ww (s := s) hc hb (k := k + 1) (n := 10) (by omega) (Nat.le_refl _)
    have f1 := FX_fitK ww (s := s) hc hb (k + 1) (by omega)
    have km := kc_mono (σ := ρ) (s := s) (k := k + 1) (n := 10) (by omega)
    have ks := kc_s (σ := ρ) (s := s) (k := k)
    have e24 : fitK ρ c s k 2 c 4 = s := by rw [FX_2 f c 4 (by decide)]; exact e4
    have e44 : fitK ρ c s k 4 k 0 = ρ 4 k 0 := FX_4 f k 0
    have hc' : c < fitK ρ c s k 1 2 2 := by rw [FX_12 f 2 (by decide)]; exact hc
    have hb' : fitK ρ c s k 1 5 2 < 25000000 := by have := f.2.2.2.2.1; omega
    clear hst
    generalize eτ : fitK ρ c s k = τ at r' f stp e24 e44 hc' hb' bs
    rw [← a7, ← a2]
    have wi := f.1.1
    have w := wi.1
    have v := wi.2.1
    have b1 := (v.1 k).1
    simp (disch := omega) only [l0, l1, l2, l3, l4, l5, l6, l7, l8, l10, l20, l30, l40, l50, l99, l255, lm1, ex_nI, nI_add, nI_leI, nI_ltI, nI_eq, nI_eqNN, nI_NNeq, tN0, exists_eq_left', exists_eq_left, forall_eq, true_and, and_true, Option.some.injEq, reduceCtorEq, false_implies, implies_true, forall_const, not_false_eq_true, not_true_eq_false, lm1', l9, nI_mul, nI_subN, t_7 r' w, r_7_0 r' w, t_23 r' w, n_23 r' w, r_23 r' w hk2, hk2, h10, t_4 r' w hk2, i_4_0 r' w hk2, t_2 r' w hc', i_2_4 r' w hc', e24]
    intro K hK
    have next : ¬ (τ 4 k 0 = s ∧ lack τ c k = true) → ∀ a b, a ≤ 4 * kc ρ s k → b + 4 * ρ 9 5 0 ≤ 6 * kc ρ s k + 4 * τ 9 5 0 → K h' a b := fun q a b ha hb => hK _ _ _ (hst' (h', a, b) ⟨ad', ag, by rw [stp, if_neg q]; exact r', by show a ≤ _; omega, by show b + _ ≤ _; rw [stp, if_neg q]; omega⟩)
    refine ⟨fun q => p_lack r' w v hc' hk2 (fun b hbb => ?_), fun q => next (fun z => q z.1) _ _ bc bs⟩
    simp (disch := omega) only [l0, l1, l2, l3, l4, l5, l6, l7, l8, l10, l20, l30, l40, l50, l99, l255, lm1, ex_nI, nI_add, nI_leI, nI_ltI, nI_eq, nI_eqNN, nI_NNeq, tN0, exists_eq_left', exists_eq_left, forall_eq, true_and, and_true, Option.some.injEq, reduceCtorEq, false_implies, implies_true, forall_const, not_false_eq_true, not_true_eq_false, lm1', l9, nI_mul, nI_subN, ]
    refine ⟨fun q2 => next (fun z => by rw [← hbb, q2] at z; cases z.2) _ _ bc bs, fun q2 => ?_⟩
    have q3 : lack τ c k = true := by rw [← hbb]; simpa using q2
    have stp : fitK ρ c s (k + 1) = fit1 τ c k := by rw [stp, if_pos ⟨q, q3⟩]
    rw [if_pos (by rw [← e44]; exact q)] at ks
    have ft := FX_take f.1 hc' hk2 (by omega : τ 1 5 2 < 40000000)
    have e2 : takeS τ c k 1 2 2 = τ 1 2 2 := FX_12 ft 2 (by decide)
    have fp : FX (takeS τ c k) (pickS (takeS τ c k) c k) 1 := FX_pickN ft.1 (by rw [e2]; exact hc') hk2 (by have := ft.2.2.2.2.1; omega) _ 0 (by omega)
    have c1 := ft.2.2.2.2.2.1
    have c3 := fp.2.2.2.2.2.1
    have cf : fit1 τ c k 9 5 0 = pickS (takeS τ c k) c k 9 5 0 := rfl
    rw [stp, cf] at mono
    refine ⟨2, 3 + 4 * (takeS τ c k 9 5 0 - τ 9 5 0), by omega, by omega, ?_⟩
    refine p_takeOut r' f.1 hc' hk2 (by omega) (by omega) (Nat.le_refl _) (fun ad2 h2' ag2 r2 => ?_)
    have a72 : ad2 7 0 = ad' 7 0 := ag2 7 0 (by decide) (by decide)
    have a22 : ad2 2 c = ad' 2 c := ag2 2 c (by decide) (by decide)
    refine ⟨2, 3 + 4 * (pickS (takeS τ c k) c k 9 5 0 - takeS τ c k 9 5 0), by omega, by omega, by rw [← a72]; exact t_7 r2 ft.1.1.1, ?_⟩
    rw [← a72, ← a22]
    refine p_pick r2 ft.1 (by rw [e2]; exact hc') hk2 (by have := ft.2.2.2.2.1; omega) (by omega) (Nat.le_refl _) (fun ad3 h3 ag3 r3 => ?_)
    refine hK _ _ _ (hst' (h3, _, _) ⟨ad3, AG_trans ag (AG_trans ag2 ag3), by rw [stp]; exact r3, ?_, ?_⟩)
    · show c2 + 0 + 2 + 2 ≤ _
      omega
    · show s2 + 0 + (3 + 4 * (takeS τ c k 9 5 0 - τ 9 5 0)) + (3 + 4 * (pickS (takeS τ c k) c k 9 5 0 - takeS τ c k 9 5 0)) + 4 * ρ 9 5 0 ≤ 6 * kc ρ s (k + 1) + 4 * (fitK ρ c s (k + 1) 9 5 0)
      rw [stp, cf]
      omega
  · have h10 : 10 ≤ k := by omega
    have : k = 10 := by omega
    subst this
    simp (disch := omega) only [l0, l1, l2, l3, l4, l5, l6, l7, l8, l10, l20, l30, l40, l50, l99, l255, lm1, ex_nI, nI_add, nI_leI, nI_ltI, nI_eq, nI_eqNN, nI_NNeq, tN0, exists_eq_left', exists_eq_left, forall_eq, true_and, and_true, Option.some.injEq, reduceCtorEq, false_implies, implies_true, forall_const, not_false_eq_true, not_true_eq_false, lm1', l9, nI_mul, nI_subN, h10]
    exact hp ad' h' ag r'
end LK

