/-! the line fits and tests -/
section LF
variable {dE : Nat} {ad : Nat → Nat → Nat} {ρ : St} {μ : Mu} {h : Hp}
theorem p_takeOut (r : RR dE ad ρ μ h) (ww : WW ρ) {c k : Nat} (hc : c < ρ 1 2 2) (hk : k < 10) (hb : ρ 1 5 2 < 40000000) {mc ms : Nat} (h1 : 2 ≤ mc) (h2 : 3 + 4 * (takeS ρ c k 9 5 0 - ρ 9 5 0) ≤ ms) {post : Hp → Prop} (hp : ∀ ad' h', (∀ t j, t ≠ 26 → t ≠ 6 → ad' t j = ad t j) → RR dE ad' (takeS ρ c k) μ h' → post h') : wp_X5_takeOut dE mc ms h (ad 7 0) (ad 2 c) (nI k) post := by
  have w := ww.1.1
  have v := ww.1.2.1
  unfold wp_X5_takeOut
  by_cases z : ρ 24 c k = 0
  · simp (disch := omega) only [l0, l1, l2, l3, l4, l5, l6, l7, l8, l10, l20, l30, l40, l50, l99, l255, lm1, ex_nI, nI_add, nI_leI, nI_ltI, nI_eq, nI_eqNN, nI_NNeq, tN0, exists_eq_left', exists_eq_left, forall_eq, true_and, and_true, Option.some.injEq, reduceCtorEq, false_implies, implies_true, forall_const, not_false_eq_true, not_true_eq_false, lm1', l9, nI_mul, nI_subN, t_2 r w hc, r_2_2 r w hc, t_24 r w hc, n_24 r w hc, r_24 r w hc, hk, am0 z]
    intro J hJ
    refine hJ _ _ _ (hp ad h (fun _ _ _ _ => rfl) ?_)
    rw [takeS, if_pos z]
    exact r
  · simp (disch := omega) only [l0, l1, l2, l3, l4, l5, l6, l7, l8, l10, l20, l30, l40, l50, l99, l255, lm1, ex_nI, nI_add, nI_leI, nI_ltI, nI_eq, nI_eqNN, nI_NNeq, tN0, exists_eq_left', exists_eq_left, forall_eq, true_and, and_true, Option.some.injEq, reduceCtorEq, false_implies, implies_true, forall_const, not_false_eq_true, not_true_eq_false, lm1', l9, nI_mul, nI_subN, t_2 r w hc, r_2_2 r w hc, t_24 r w hc, n_24 r w hc, r_24 r w hc, hk, am1 z, forall_eq']
    intro J hJ
    have cap : takeS ρ c k 9 5 0 = capA (ρ 1 5 2) (ρ 9 5 0) := by
      rw [takeS, if_neg z, np9, if_pos rfl]
      simp [up]
    rw [cap] at h2
    have vc : V ρ 2 c := (w.2.2.2.2.2.1 c).1.mpr hc
    have v24 : V ρ 24 c := (w.2.2.2.2.2.1 c).2.1.mpr hc
    have r1 : RR dE ad (up ρ 24 c k 0) μ (sR h (ad 24 c) k none) := r.setPart (k := k) (v := 0) v24 (fun q => absurd rfl q)
    have r2 := r1.setI (v := 0) ((V_up (by decide) _ _).mpr vc) (j := 6) rfl (by decide)
    have w2 : WI (up (up ρ 24 c k 0) 2 c 6 0) := WI_up (WI_up ww.1 (by simp [okU, hc])) (by simp [okU, up, hc])
    have e8 : up (up ρ 24 c k 0) 2 c 6 0 7 0 8 = ρ 7 0 8 := by simp [up]
    refine ⟨t_7 r2 w2.1, ?_⟩
    have i8 := i_7_8 r2 w2.1
    rw [e8] at i8
    change hI (sI (sR h (ad 24 c) k none) (ad 2 c) 6 (nI 0)) (ad 7 0) 8 = _ at i8
    rw [i8, nI_add]
    have r3 := r2.setI (v := ρ 7 0 8 + 1) w2.1.1.1 (j := 8) rfl (by decide)
    have w3 : WI (up (up (up ρ 24 c k 0) 2 c 6 0) 7 0 8 (ρ 7 0 8 + 1)) := WI_up w2 (by simp [okU])
    have s5 : up (up (up ρ 24 c k 0) 2 c 6 0) 7 0 8 (ρ 7 0 8 + 1) 1 5 2 = ρ 1 5 2 := by simp [up]
    have s9 : up (up (up ρ 24 c k 0) 2 c 6 0) 7 0 8 (ρ 7 0 8 + 1) 9 5 0 = ρ 9 5 0 := by simp [up]
    have sc : c < up (up (up ρ 24 c k 0) 2 c 6 0) 7 0 8 (ρ 7 0 8 + 1) 1 2 2 := by simp [up]; exact hc
    have s0 : up (up (up ρ 24 c k 0) 2 c 6 0) 7 0 8 (ρ 7 0 8 + 1) 2 c 0 = c := by simp [up]; exact v.2.2.2.2.2.2.1 c hc
    have tk : takeS ρ c k = newPick (up (up (up ρ 24 c k 0) 2 c 6 0) 7 0 8 (ρ 7 0 8 + 1)) c k NN := by rw [takeS, if_neg z]
    rw [tk] at hp
    clear tk
    generalize eτ : up (up (up ρ 24 c k 0) 2 c 6 0) 7 0 8 (ρ 7 0 8 + 1) = τ at r3 w3 s5 s9 sc s0 hp
    refine ⟨_, r_7_5 r3 w3.1, by omega, by omega, fun q zq => ?_⟩
    have i0 := i_2_0 r3 w3.1 sc
    rw [s0] at i0
    have nq : ad 2 c ≠ q := r3.fresh zq ((w3.1.2.2.2.2.2.1 c).1.mpr sc)
    rw [hI_sN, if_neg nq, i0]
    exact p_newPick r3 w3 (by rw [s5]; exact hb) zq h1 (by rw [s5, s9]; exact h2) (fun ad' h' ha r' => hJ _ _ _ (hp ad' h' ha r'))
theorem p_pick (r : RR dE ad ρ μ h) (ww : WW ρ) {c k : Nat} (hc : c < ρ 1 2 2) (hk : k < 10) (hb : ρ 1 5 2 < 40000000) {mc ms : Nat} (h1 : 2 ≤ mc) (h2 : 3 + 4 * (pickS ρ c k 9 5 0 - ρ 9 5 0) ≤ ms) {post : Hp → Prop} (hp : ∀ ad' h', (∀ t j, t ≠ 26 → t ≠ 6 → ad' t j = ad t j) → RR dE ad' (pickS ρ c k) μ h' → post h') : wp_X5_pick dE mc ms h (ad 7 0) (ad 2 c) (nI k) post := by
  have w := ww.1.1
  have v := ww.1.2.1
  have n40 : ρ 1 1 2 ≤ 40 := v.2.2.2.2.1.1
  unfold wp_X5_pick
  intro J hJ
  refine lp (J := J) hJ (ρ 1 1 2) (fun l => pickN ρ c k l (ρ 1 1 2 - l) = pickS ρ c k) (by rw [Nat.sub_zero]; rfl) (fun l hl e hs => ?_)
  by_cases hl2 : l < ρ 1 1 2
  · have nle : ¬ (ρ 1 1 2 ≤ l) := by omega
    simp (disch := omega) only [l0, l1, l2, l3, l4, l5, l6, l7, l8, l10, l20, l30, l40, l50, l99, l255, lm1, ex_nI, nI_add, nI_leI, nI_ltI, nI_eq, nI_eqNN, nI_NNeq, tN0, exists_eq_left', exists_eq_left, forall_eq, true_and, and_true, Option.some.injEq, reduceCtorEq, false_implies, implies_true, forall_const, not_false_eq_true, not_true_eq_false, lm1', l9, nI_mul, nI_subN, t_7 r w, r_7_1 r w, t_1 r w, wp_Jx4a65c_size_8abf5, i_1_2 r w, nle]
    refine p_getL r w hl2 ?_
    have b1 := (v.2.1 l).1
    have b3 := (v.2.1 l).2.2.1
    have b4 := (v.2.1 l).2.2.2
    simp (disch := omega) only [l0, l1, l2, l3, l4, l5, l6, l7, l8, l10, l20, l30, l40, l50, l99, l255, lm1, ex_nI, nI_add, nI_leI, nI_ltI, nI_eq, nI_eqNN, nI_NNeq, tN0, exists_eq_left', exists_eq_left, forall_eq, true_and, and_true, Option.some.injEq, reduceCtorEq, false_implies, implies_true, forall_const, not_false_eq_true, not_true_eq_false, lm1', l9, nI_mul, nI_subN, t_5 r w hl2, i_5_1 r w hl2, i_5_3 r w hl2, i_5_4 r w hl2]
    intro K hK
    have ed : ρ 1 1 2 - l = (ρ 1 1 2 - (l + 1)) + 1 := by omega
    rw [ed] at e
    have estep : pickN ρ c k l (ρ 1 1 2 - (l + 1) + 1) = if ρ 5 l 1 = k ∧ ρ 5 l 4 = 0 ∧ ¬ ρ 5 l 3 = 0 then pickAt ρ c k l else pickN ρ c k (l + 1) (ρ 1 1 2 - (l + 1)) := rfl
    have next : ¬ (ρ 5 l 1 = k ∧ ρ 5 l 4 = 0 ∧ ¬ ρ 5 l 3 = 0) → K := fun q => hK (hs hl2 (by rw [← e, estep, if_neg q]))
    refine ⟨fun e1 => ⟨fun e4 => ⟨fun e3 => next (fun q => q.2.2 (by omega)), fun e3 => ?_⟩, fun e4 => next (fun q => e4 q.2.1)⟩, fun e1 => next (fun q => e1 q.1)⟩
    have e3' : ¬ ρ 5 l 3 = 0 := by omega
    have eS : pickS ρ c k = pickAt ρ c k l := by rw [← e, estep, if_pos ⟨e1, e4, e3'⟩]
    rw [eS] at h2 hp
    have vl : V ρ 5 l := (w.2.2.2.2.1 l).mpr hl2
    have r1 := r.setI (v := ρ 5 l 3 - 1) vl (j := 3) rfl (by decide)
    have w1 : WI (up ρ 5 l 3 (ρ 5 l 3 - 1)) := WI_up ww.1 (by simp [okU, hl2]; omega)
    have hc1 : c < up ρ 5 l 3 (ρ 5 l 3 - 1) 1 2 2 := by simp [up]; exact hc
    have en : nI (ρ 5 l 3) - nI 1 = nI (ρ 5 l 3 - 1) := nI_subN (by omega)
    have v24 : V (up ρ 5 l 3 (ρ 5 l 3 - 1)) 24 c := (w1.1.2.2.2.2.2.1 c).2.1.mpr hc1
    rw [en]
    refine ⟨t_2 r1 w1.1 hc1, _, r_2_2 r1 w1.1 hc1, t_24 r1 w1.1 hc1, by rw [n_24 r1 w1.1 hc1]; exact hk, ?_⟩
    have r2 := r1.setPart (k := k) (v := l + 1) v24 (fun _ => by rw [Nat.add_sub_cancel]; exact (V_up (by decide) _ _).mpr vl)
    rw [am1' (t := 5) (v := l) rfl] at r2
    have w2 : WI (up (up ρ 5 l 3 (ρ 5 l 3 - 1)) 24 c k (l + 1)) := WI_up w1 (by simp [okU, up, hc]; omega)
    have hc2 : c < up (up ρ 5 l 3 (ρ 5 l 3 - 1)) 24 c k (l + 1) 1 2 2 := by simp [up]; exact hc
    have r3 := r2.setI (v := 0) ((w2.1.2.2.2.2.2.1 c).1.mpr hc2) (j := 6) rfl (by decide)
    have w3 : WI (up (up (up ρ 5 l 3 (ρ 5 l 3 - 1)) 24 c k (l + 1)) 2 c 6 0) := WI_up w2 (by simp [okU, up, hc])
    have s5 : up (up (up ρ 5 l 3 (ρ 5 l 3 - 1)) 24 c k (l + 1)) 2 c 6 0 1 5 2 = ρ 1 5 2 := by simp [up]
    have s9 : up (up (up ρ 5 l 3 (ρ 5 l 3 - 1)) 24 c k (l + 1)) 2 c 6 0 9 5 0 = ρ 9 5 0 := by simp [up]
    have sc : c < up (up (up ρ 5 l 3 (ρ 5 l 3 - 1)) 24 c k (l + 1)) 2 c 6 0 1 2 2 := by simp [up]; exact hc
    have sl : l < up (up (up ρ 5 l 3 (ρ 5 l 3 - 1)) 24 c k (l + 1)) 2 c 6 0 1 1 2 := by simp [up]; exact hl2
    have s0 : up (up (up ρ 5 l 3 (ρ 5 l 3 - 1)) 24 c k (l + 1)) 2 c 6 0 2 c 0 = c := by simp [up]; exact v.2.2.2.2.2.2.1 c hc
    have s50 : up (up (up ρ 5 l 3 (ρ 5 l 3 - 1)) 24 c k (l + 1)) 2 c 6 0 5 l 0 = l := by simp [up]; exact v.2.2.2.2.2.1 l hl2
    have cap : pickAt ρ c k l 9 5 0 = capA (ρ 1 5 2) (ρ 9 5 0) := by
      rw [pickAt, np9, if_pos rfl, s5, s9]
    rw [cap] at h2
    unfold pickAt at hp
    clear cap eS estep
    generalize eτ : up (up (up ρ 5 l 3 (ρ 5 l 3 - 1)) 24 c k (l + 1)) 2 c 6 0 = τ at r3 w3 s5 s9 sc sl s0 s50 hp
    refine ⟨_, r_7_5 r3 w3.1, by omega, by omega, fun q zq => ?_⟩
    have i0 := i_2_0 r3 w3.1 sc
    rw [s0] at i0
    have i50 := i_5_0 r3 w3.1 sl
    rw [s50] at i50
    have nq : ad 2 c ≠ q := r3.fresh zq ((w3.1.2.2.2.2.2.1 c).1.mpr sc)
    have nq5 : ad 5 l ≠ q := r3.fresh zq ((w3.1.2.2.2.2.1 l).mpr sl)
    rw [hI_sN, if_neg nq, i0, hI_sN, if_neg nq5, i50]
    exact p_newPick (post := fun h' _ _ => post h') r3 w3 (by rw [s5]; exact hb) zq h1 (by rw [s5, s9]; exact h2) (fun ad' h' ha r' => hp ad' h' ha r')
  · have le : ρ 1 1 2 ≤ l := by omega
    simp (disch := omega) only [l0, l1, l2, l3, l4, l5, l6, l7, l8, l10, l20, l30, l40, l50, l99, l255, lm1, ex_nI, nI_add, nI_leI, nI_ltI, nI_eq, nI_eqNN, nI_NNeq, tN0, exists_eq_left', exists_eq_left, forall_eq, true_and, and_true, Option.some.injEq, reduceCtorEq, false_implies, implies_true, forall_const, not_false_eq_true, not_true_eq_false, lm1', l9, nI_mul, nI_subN, t_7 r w, r_7_1 r w, t_1 r w, wp_Jx4a65c_size_8abf5, i_1_2 r w, le]
    refine hp ad h (fun _ _ _ _ => rfl) ?_
    have : ρ 1 1 2 - l = 0 := by omega
    rw [this] at e
    rw [← e]
    exact r
end LF

