/-! a test; work on the line -/
def passS (σ : St) (c : Nat) : Bool := fitsS σ c && decide (σ 2 c 8 = 0)
def testS (σ : St) (c : Nat) : St := if passS σ c = true then up (up (up σ 2 c 6 1) 2 c 7 0) 2 c 8 0 else up (up (up (up σ 2 c 6 0) 2 c 7 1) 2 c 8 0) 7 0 9 (σ 7 0 9 + 1)
def workS (σ : St) (s : Nat) : St := if σ 25 0 s = 0 then σ else if s < 5 then fitK σ (σ 25 0 s - 1) s 10 else if s = 6 ∧ σ 2 (σ 25 0 s - 1) 6 = 0 then testS σ (σ 25 0 s - 1) else σ
def workN (σ : St) : Nat → St
  | 0 => σ
  | s + 1 => workS (workN σ s) s
def ksum (σ : St) (k : Nat) : Nat → Nat
  | 0 => 0
  | s + 1 => ksum σ k s + kc σ s k
theorem ksum_s {σ : St} {k : Nat} : ∀ s, ksum σ (k + 1) s = ksum σ k s + if σ 4 k 0 < s then 1 else 0 := by
  intro s
  induction s with
  | zero => rfl
  | succ s ih =>
    show ksum σ (k + 1) s + kc σ s (k + 1) = ksum σ k s + kc σ s k + _
    rw [ih, kc_s]
    by_cases e : σ 4 k 0 = s
    · rw [if_neg (by omega), if_pos e, if_pos (by omega)]; omega
    · by_cases e2 : σ 4 k 0 < s
      · rw [if_pos e2, if_neg e, if_pos (by omega)]; omega
      · rw [if_neg e2, if_neg e, if_neg (by omega)]; omega
theorem ksum_le {σ : St} {s : Nat} : ∀ k, ksum σ k s ≤ k := by
  intro k
  induction k with
  | zero =>
    have : ∀ s, ksum σ 0 s = 0 := by
      intro s
      induction s with
      | zero => rfl
      | succ s ih =>
        show ksum σ 0 s + 0 = 0
        rw [ih]
    rw [this]; exact Nat.le_refl _
  | succ k ih =>
    rw [ksum_s]
    split <;> omega
theorem ksum_mono {σ : St} {k s n : Nat} (h : s ≤ n) : ksum σ k s ≤ ksum σ k n := by
  induction n with
  | zero =>
    have : s = 0 := by omega
    rw [this]; exact Nat.le_refl _
  | succ n ih =>
    by_cases e : s = n + 1
    · rw [e]; exact Nat.le_refl _
    · have := ih (by omega)
      show _ ≤ ksum σ k n + kc σ n k
      omega
/-- what work leaves -/
def GX (σ τ : St) (n : Nat) : Prop := WW τ ∧ (∀ i, i ≠ 5 → τ 1 i 2 = σ 1 i 2) ∧ (∀ i j, τ 4 i j = σ 4 i j) ∧ (∀ j, τ 25 0 j = σ 25 0 j) ∧ (∀ i j, j ≠ 6 → j ≠ 7 → j ≠ 8 → τ 2 i j = σ 2 i j) ∧ σ 1 5 2 ≤ τ 1 5 2 ∧ τ 1 5 2 ≤ σ 1 5 2 + n ∧ σ 9 5 0 ≤ τ 9 5 0
theorem GX_refl {σ : St} (w : WW σ) : GX σ σ 0 := ⟨w, fun _ _ => rfl, fun _ _ => rfl, fun _ => rfl, fun _ _ _ _ _ => rfl, Nat.le_refl _, Nat.le_refl _, Nat.le_refl _⟩
theorem GX_trans {σ τ υ : St} {m n : Nat} (a : GX σ τ m) (b : GX τ υ n) : GX σ υ (m + n) := by
  obtain ⟨-, a1, a2, a3, a4, a5, a6, a7⟩ := a
  obtain ⟨w, b1, b2, b3, b4, b5, b6, b7⟩ := b
  exact ⟨w, fun i h => (b1 i h).trans (a1 i h), fun i j => (b2 i j).trans (a2 i j), fun j => (b3 j).trans (a3 j), fun i j h1 h2 h3 => (b4 i j h1 h2 h3).trans (a4 i j h1 h2 h3), by omega, by omega, by omega⟩
theorem GX_mono {σ τ : St} {m n : Nat} (a : GX σ τ m) (h : m ≤ n) : GX σ τ n := ⟨a.1, a.2.1, a.2.2.1, a.2.2.2.1, a.2.2.2.2.1, a.2.2.2.2.2.1, by have := a.2.2.2.2.2.2.1; omega, a.2.2.2.2.2.2.2⟩
theorem GX_of {σ τ : St} {n : Nat} (f : FX σ τ n) : GX σ τ n := ⟨f.1, fun i h => FX_12 f i h, fun i j => FX_4 f i j, fun j => FX_25 f 0 j, fun i j h _ _ => FX_2 f i j h, f.2.2.2.1, f.2.2.2.2.1, f.2.2.2.2.2.1⟩
theorem WW_up {σ : St} (w : WW σ) {t i j v : Nat} (o : okU σ t i j v) (n : t ≠ 10 ∧ t ≠ 25 ∧ t ≠ 26 ∧ t ≠ 27 ∧ t ≠ 6 ∧ t ≠ 24 ∧ (t = 2 → j ≠ 3 ∧ j ≠ 4 ∧ j ≠ 9)) : WW (up σ t i j v) := by
  have n1 : t ≠ 1 := o.1.1
  exact ⟨WI_up w.1 o, WL_up w.2.1 ⟨n1, n.1, n.2.1, n.2.2.1, n.2.2.2.1, n.2.2.2.2.2.2⟩, WPk_up w.2.2 ⟨n1, n.2.2.2.2.1, n.2.2.2.2.2.1⟩⟩
theorem GX_test {σ : St} (w : WW σ) {c : Nat} (hc : c < σ 1 2 2) : GX σ (testS σ c) 0 := by
  unfold testS
  split
  · refine ⟨WW_up (WW_up (WW_up w (by simp [okU, hc]) (by simp)) (by simp [okU, up, hc]) (by simp)) (by simp [okU, up, hc]) (by simp), fun i h => by simp [up], fun i j => by simp [up], fun j => by simp [up], fun i j h6 h7 h8 => by simp [up, h6, h7, h8], by simp [up], by simp [up], by simp [up]⟩
  · refine ⟨WW_up (WW_up (WW_up (WW_up w (by simp [okU, hc]) (by simp)) (by simp [okU, up, hc]) (by simp)) (by simp [okU, up, hc]) (by simp)) (by simp [okU]) (by simp), fun i h => by simp [up], fun i j => by simp [up], fun j => by simp [up], fun i j h6 h7 h8 => by simp [up, h6, h7, h8], by simp [up], by simp [up], by simp [up]⟩
theorem car_lt {σ : St} (w : WW σ) {s : Nat} (z : σ 25 0 s ≠ 0) : σ 25 0 s - 1 < σ 1 2 2 ∧ σ 2 (σ 25 0 s - 1) 3 = 1 ∧ σ 2 (σ 25 0 s - 1) 4 = s := by
  obtain ⟨h1, h2, h3, h4⟩ := w.2.1.1 s z
  exact ⟨by omega, h3, h4⟩
theorem GX_workS {σ : St} (w : WW σ) {s : Nat} (hb : σ 1 5 2 < 20000000) : GX σ (workS σ s) (2 * kc σ s 10) := by
  unfold workS
  by_cases z : σ 25 0 s = 0
  · rw [if_pos z]; exact GX_mono (GX_refl w) (Nat.zero_le _)
  · rw [if_neg z]
    obtain ⟨hc, -, -⟩ := car_lt w z
    by_cases h5 : s < 5
    · rw [if_pos h5]; exact GX_of (FX_fitK w hc hb 10 (Nat.le_refl _))
    · rw [if_neg h5]
      by_cases h6 : s = 6 ∧ σ 2 (σ 25 0 s - 1) 6 = 0
      · rw [if_pos h6]; exact GX_mono (GX_test w hc) (Nat.zero_le _)
      · rw [if_neg h6]; exact GX_mono (GX_refl w) (Nat.zero_le _)
theorem kc_cong {σ τ : St} (h : ∀ i j, τ 4 i j = σ 4 i j) {s : Nat} : ∀ k, kc τ s k = kc σ s k := by
  intro k
  induction k with
  | zero => rfl
  | succ k ih => rw [kc_s, kc_s, ih, h]
theorem GX_workN {σ : St} (w : WW σ) (hb : σ 1 5 2 < 19000000) : ∀ s, GX σ (workN σ s) (2 * ksum σ 10 s) := by
  intro s
  induction s with
  | zero => exact GX_mono (GX_refl w) (Nat.zero_le _)
  | succ s ih =>
    have k10 := ksum_le (σ := σ) (s := s) 10
    have g := GX_workS ih.1 (s := s) (by have := ih.2.2.2.2.2.2.1; omega)
    refine GX_mono (GX_trans ih g) ?_
    rw [kc_cong ih.2.2.1]
    show _ ≤ 2 * (ksum σ 10 s + kc σ s 10)
    omega
theorem workN_cap {σ : St} (w : WW σ) (hb : σ 1 5 2 < 19000000) {k n : Nat} (h : k ≤ n) : workN σ k 9 5 0 ≤ workN σ n 9 5 0 := by
  induction n with
  | zero =>
    have : k = 0 := by omega
    rw [this]; exact Nat.le_refl _
  | succ n ih =>
    by_cases e : k = n + 1
    · rw [e]; exact Nat.le_refl _
    · have k10 := ksum_le (σ := σ) (s := n) 10
      have g1 := GX_workN w hb n
      have g := GX_workS g1.1 (s := n) (by have := g1.2.2.2.2.2.2.1; omega)
      exact Nat.le_trans (ih (by omega)) g.2.2.2.2.2.2.2
section LT
variable {dE : Nat} {ad : Nat → Nat → Nat} {ρ : St} {μ : Mu} {h : Hp}
theorem p_test (r : RR dE ad ρ μ h) (ww : WW ρ) {c : Nat} (hc : c < ρ 1 2 2) {post : Hp → Prop} (hp : ∀ h', RR dE ad (testS ρ c) μ h' → post h') : wp_X5_test h (ad 7 0) (ad 2 c) post := by
  have w := ww.1.1
  have v := ww.1.2.1
  have vc : V ρ 2 c := (w.2.2.2.2.2.1 c).1.mpr hc
  have b8 := (v.2.2.1 c).2.2.2.1
  unfold wp_X5_test
  refine ⟨t_7 r w, p_fits r w v hc (fun b hbb => ?_)⟩
  simp (disch := omega) only [l0, l1, l2, l3, l4, l5, l6, l7, l8, l10, l20, l30, l40, l50, l99, l255, lm1, ex_nI, nI_add, nI_leI, nI_ltI, nI_eq, nI_eqNN, nI_NNeq, tN0, exists_eq_left', exists_eq_left, forall_eq, true_and, and_true, Option.some.injEq, reduceCtorEq, false_implies, implies_true, forall_const, not_false_eq_true, not_true_eq_false, lm1', l9, nI_mul, nI_subN, t_2 r w hc, i_2_8 r w hc]
  intro J hJ
  have main : ∀ p : Bool, p = passS ρ c → J (nI p.toNat) := by
    intro p ep
    refine hJ _ ⟨b01_b p, fun K hK => ?_⟩
    have r1 := r.setI (v := p.toNat) vc (j := 6) rfl (by decide)
    have r2 := r1.setI (v := (!p).toNat) ((V_up (by decide) _ _).mpr vc) (j := 7) rfl (by decide)
    have r3 := r2.setI (v := 0) ((V_up (by decide) _ _).mpr ((V_up (by decide) _ _).mpr vc)) (j := 8) rfl (by decide)
    have w1 := WA_up w (t := 2) (i := c) (j := 6) (v := p.toNat) (by omega) (by decide) (by decide) (by decide)
    have w2 := WA_up w1 (t := 2) (i := c) (j := 7) (v := (!p).toNat) (by omega) (by decide) (by decide) (by decide)
    have w3 := WA_up w2 (t := 2) (i := c) (j := 8) (v := 0) (by omega) (by decide) (by decide) (by decide)
    have e9 : up (up (up ρ 2 c 6 p.toNat) 2 c 7 (!p).toNat) 2 c 8 0 7 0 9 = ρ 7 0 9 := by simp [up]
    cases p with
    | true =>
      refine ⟨fun q => absurd q (by decide), fun _ => hK _ ⟨Or.inl rfl, fun L hL => ⟨fun q => absurd q (by decide), fun _ => hL _ (hp _ ?_)⟩⟩⟩
      have : testS ρ c = up (up (up ρ 2 c 6 1) 2 c 7 0) 2 c 8 0 := by rw [testS, if_pos ep.symm]
      rw [this]
      exact r3
    | false =>
      refine ⟨fun _ => hK _ ⟨Or.inr rfl, fun L hL => ⟨fun _ => hL _ (hp _ ?_), fun q => absurd rfl q⟩⟩, fun q => absurd rfl q⟩
      have : testS ρ c = up (up (up (up ρ 2 c 6 0) 2 c 7 1) 2 c 8 0) 7 0 9 (ρ 7 0 9 + 1) := by rw [testS, if_neg (by rw [← ep]; decide)]
      rw [this]
      have i9 := i_7_9 r3 w3
      rw [e9] at i9
      have r4 := r3.setI (v := ρ 7 0 9 + 1) w3.1.1 (j := 9) rfl (by decide)
      have i9 : hI (sI (sI (sI h (ad 2 c) 6 (nI false.toNat)) (ad 2 c) 7 (nI 1)) (ad 2 c) 8 (nI 0)) (ad 7 0) 9 = nI (ρ 7 0 9) := i9
      rw [i9, nI_add]
      exact r4
  intro K hK
  refine ⟨fun e => hK (main false (by simp [passS, ← hbb, e])), fun e => ⟨fun e2 => main true ?_, fun e2 => hK (main false (by simp [passS, e2]))⟩⟩
  have e' : b = true := by simpa using e
  simp [passS, ← hbb, e', e2]
theorem p_workOnLine (r : RR dE ad ρ μ h) (ww : WW ρ) (hb : ρ 1 5 2 < 19000000) {mc ms : Nat} (h1 : 40 ≤ mc) (h2 : 60 + 4 * (workN ρ 8 9 5 0 - ρ 9 5 0) ≤ ms) {post : Hp → Prop} (hp : ∀ ad' h', AG ad ad' → RR dE ad' (workN ρ 8) μ h' → post h') : wp_X5_workOnLine dE mc ms h (ad 7 0) post := by
  unfold wp_X5_workOnLine
  intro J hJ
  refine lpA (J := fun (x : Hp × Nat × Nat) v => J v x.1 x.2.1 x.2.2) (x := (h, 0, 0)) (fun x v hb => hJ v x.1 x.2.1 x.2.2 hb) 8 (fun s x => ∃ ad', AG ad ad' ∧ RR dE ad' (workN ρ s) μ x.1 ∧ x.2.1 ≤ 4 * ksum ρ 10 s ∧ x.2.2 + 4 * ρ 9 5 0 ≤ 6 * ksum ρ 10 s + 4 * (workN ρ s 9 5 0)) ⟨ad, AG_refl, r, Nat.zero_le _, by show 0 + 4 * ρ 9 5 0 ≤ _ + 4 * ρ 9 5 0; omega⟩ (fun s x hk e hst => ?_)
  obtain ⟨h', c2, s2⟩ := x
  obtain ⟨ad', ag, r', bc, bs⟩ := e
  have bc : c2 ≤ 4 * ksum ρ 10 s := bc
  have bs : s2 + 4 * ρ 9 5 0 ≤ 6 * ksum ρ 10 s + 4 * (workN ρ s 9 5 0) := bs
  have r' : RR dE ad' (workN ρ s) μ h' := r'
  have f := GX_workN ww hb s
  have k10 := ksum_le (σ := ρ) (s := s + 1) 10
  have kst : ksum ρ 10 (s + 1) = ksum ρ 10 s + kc ρ s 10 := rfl
  have a7 : ad' 7 0 = ad 7 0 := ag 7 0 (by decide) (by decide)
  by_cases hk2 : s < 8
  · have h8 : ¬ (8 ≤ s) := by omega
    have hst' : ∀ y : Hp × Nat × Nat, _ := fun y => hst y hk2
    have stp : workN ρ (s + 1) = workS (workN ρ s) s := rfl
    have mono := workN_cap ww hb (k := s + 1) (n := 8) (by omega)
    have kcc := kc_cong f.2.2.1 (s := s) 10
    clear hst
    have ff := f.2.2.2.2.2.2.1
    have wt := f.1
    generalize eτ : workN ρ s = τ at r' stp bs wt kcc ff
    have hbt : τ 1 5 2 < 20000000 := by omega
    have gs := GX_workS wt (s := s) hbt
    have gcap := gs.2.2.2.2.2.2.2
    rw [← a7]
    have w := wt.1.1
    have fin : ∀ ad2 h2 a b, AG ad' ad2 → RR dE ad2 (workS τ s) μ h2 → a ≤ 4 * ksum ρ 10 (s + 1) → b + 4 * ρ 9 5 0 ≤ 6 * ksum ρ 10 (s + 1) + 4 * (workS τ s 9 5 0) → J (nI (s + 1)) h2 a b := fun ad2 h2 a b ag2 r2 ha hbb => hst' (h2, a, b) ⟨ad2, AG_trans ag ag2, by rw [stp]; exact r2, ha, by rw [stp]; exact hbb⟩
    by_cases z : τ 25 0 s = 0
    · have eS : workS τ s = τ := by rw [workS, if_pos z]
      rw [eS] at fin
      simp (disch := omega) only [l0, l1, l2, l3, l4, l5, l6, l7, l8, l10, l20, l30, l40, l50, l99, l255, lm1, ex_nI, nI_add, nI_leI, nI_ltI, nI_eq, nI_eqNN, nI_NNeq, tN0, exists_eq_left', exists_eq_left, forall_eq, true_and, and_true, Option.some.injEq, reduceCtorEq, false_implies, implies_true, forall_const, not_false_eq_true, not_true_eq_false, lm1', l9, nI_mul, nI_subN, h8, t_7 r' w, r_7_6 r' w, t_25 r' w, n_25 r' w, r_25 r' w, am0 z, hk2]
      intro K hK L hL
      exact hL (hK _ _ _ (fin ad' h' _ _ AG_refl r' (by omega) (by omega)))
    · obtain ⟨hc, e3, e4⟩ := car_lt wt z
      have z1 : am ad' (orl 2 (τ 25 0 s)) = some (ad' 2 (τ 25 0 s - 1)) := am1 z
      simp (disch := omega) only [l0, l1, l2, l3, l4, l5, l6, l7, l8, l10, l20, l30, l40, l50, l99, l255, lm1, ex_nI, nI_add, nI_leI, nI_ltI, nI_eq, nI_eqNN, nI_NNeq, tN0, exists_eq_left', exists_eq_left, forall_eq, true_and, and_true, Option.some.injEq, reduceCtorEq, false_implies, implies_true, forall_const, not_false_eq_true, not_true_eq_false, lm1', l9, nI_mul, nI_subN, h8, t_7 r' w, r_7_6 r' w, t_25 r' w, n_25 r' w, r_25 r' w, z1, hk2, forall_eq']
      intro K hK L hL
      have stay : workS τ s = τ → K h' c2 s2 := fun eS => hK _ _ _ (fin ad' h' _ _ AG_refl (by rw [eS]; exact r') (by omega) (by rw [eS]; omega))
      unfold wp_X5_isFittingStation
      simp (disch := omega) only [l0, l1, l2, l3, l4, l5, l6, l7, l8, l10, l20, l30, l40, l50, l99, l255, lm1, ex_nI, nI_add, nI_leI, nI_ltI, nI_eq, nI_eqNN, nI_NNeq, tN0, exists_eq_left', exists_eq_left, forall_eq, true_and, and_true, Option.some.injEq, reduceCtorEq, false_implies, implies_true, forall_const, not_false_eq_true, not_true_eq_false, lm1', l9, nI_mul, nI_subN, Nat.not_lt_zero]
      intro M hM N hN
      by_cases s5 : s < 5
      · have n5 : ¬ (5 ≤ s) := by omega
        refine ⟨fun q => absurd q n5, fun _ => hM _ ⟨Or.inr rfl, ⟨fun q => absurd q (by decide), fun _ => ?_⟩⟩⟩
        have eS : workS τ s = fitK τ (τ 25 0 s - 1) s 10 := by rw [workS, if_neg z, if_pos s5]
        rw [eS] at fin gcap
        rw [stp, eS] at mono
        refine ⟨4 * kc τ s 10, 6 * kc τ s 10 + 4 * (fitK τ (τ 25 0 s - 1) s 10 9 5 0 - τ 9 5 0), by omega, by omega, ?_⟩
        refine p_fitParts r' wt hc s5 e4 hbt (Nat.le_refl _) (Nat.le_refl _) (fun ad2 h2' ag2 r2 => hK _ _ _ (fin ad2 h2' _ _ ag2 r2 (by omega) (by omega)))
      · have p5 : 5 ≤ s := by omega
        refine ⟨fun _ => hN (hM _ ⟨Or.inl rfl, ⟨fun _ => hL ?_, fun q => absurd rfl q⟩⟩), fun q => absurd p5 q⟩
        refine ⟨fun s6 => ?_, fun s6 => stay (by rw [workS, if_neg z, if_neg s5, if_neg (fun q => s6 q.1)])⟩
        have b6 := (wt.1.2.1.2.2.1 (τ 25 0 s - 1)).2.1
        simp (disch := omega) only [l0, l1, l2, l3, l4, l5, l6, l7, l8, l10, l20, l30, l40, l50, l99, l255, lm1, ex_nI, nI_add, nI_leI, nI_ltI, nI_eq, nI_eqNN, nI_NNeq, tN0, exists_eq_left', exists_eq_left, forall_eq, true_and, and_true, Option.some.injEq, reduceCtorEq, false_implies, implies_true, forall_const, not_false_eq_true, not_true_eq_false, lm1', l9, nI_mul, nI_subN, t_2 r' w hc, i_2_6 r' w hc]
        refine ⟨fun e6 => p_test r' wt hc (fun h3 r3 => hK _ _ _ (fin ad' h3 _ _ AG_refl ?_ (by omega) (by omega))), fun e6 => stay (by rw [workS, if_neg z, if_neg s5, if_neg (fun q => e6 q.2)])⟩
        rw [workS, if_neg z, if_neg s5, if_pos ⟨s6, e6⟩]
        exact r3
  · have h8 : 8 ≤ s := by omega
    have : s = 8 := by omega
    subst this
    simp (disch := omega) only [l0, l1, l2, l3, l4, l5, l6, l7, l8, l10, l20, l30, l40, l50, l99, l255, lm1, ex_nI, nI_add, nI_leI, nI_ltI, nI_eq, nI_eqNN, nI_NNeq, tN0, exists_eq_left', exists_eq_left, forall_eq, true_and, and_true, Option.some.injEq, reduceCtorEq, false_implies, implies_true, forall_const, not_false_eq_true, not_true_eq_false, lm1', l9, nI_mul, nI_subN, h8]
    exact hp ad' h' ag r'
end LT

