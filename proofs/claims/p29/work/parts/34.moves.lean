/-! leaving the line; moving on -/
def leaveB (σ : St) : Bool := decide (σ 25 0 7 ≠ 0) && decide (setI (lack σ (σ 25 0 7 - 1)) 10 = nI 0) && decide (σ 2 (σ 25 0 7 - 1) 6 ≠ 0) && fitsS σ (σ 25 0 7 - 1)
def goneS (σ : St) (c s : Nat) : St := up (up (clr σ s) 2 c 3 3) 2 c 4 NN
def leaveS (σ : St) : St := if leaveB σ = true then goneS σ (σ 25 0 7 - 1) 7 else σ
def moveS (σ : St) (s : Nat) : St := if σ 25 0 s ≠ 0 ∧ σ 25 0 (s + 1) = 0 ∧ doneS σ (σ 25 0 s - 1) s = true then toLine (clr σ s) (σ 25 0 s - 1) (s + 1) else σ
def moveN : Nat → St → St
  | 0, σ => σ
  | n + 1, σ => moveN n (moveS σ n)
theorem go3 (σ : St) (c s x : Nat) : goneS σ c s 2 x 3 = if x = c then 3 else σ 2 x 3 := by simp [goneS, clr, up]
theorem go4 (σ : St) (c s x : Nat) : goneS σ c s 2 x 4 = if x = c then NN else σ 2 x 4 := by simp [goneS, clr, up]
theorem gox (σ : St) (c s a b k : Nat) (h : a ≠ 25 ∧ ¬ (a = 2 ∧ k = 3) ∧ ¬ (a = 2 ∧ k = 4)) : goneS σ c s a b k = σ a b k := by
  obtain ⟨h1, h2, h3⟩ := h
  unfold goneS clr
  rw [up_ne (fun z => h3 ⟨z.1, z.2.2⟩), up_ne (fun z => h2 ⟨z.1, z.2.2⟩), up_ne (fun z => h1 z.1)]
theorem go25 (σ : St) (c s x : Nat) : goneS σ c s 25 0 x = if x = s then 0 else σ 25 0 x := by simp [goneS, clr, up]
theorem WL_gone {σ : St} {c s : Nat} (h : WL σ) (e : σ 25 0 s = c + 1) : WL (goneS σ c s) := by
  obtain ⟨h1, h2, h3, h4, h5, h6⟩ := h
  obtain ⟨y1, y2, y3, y4⟩ := h1 s (by omega)
  rw [e, Nat.add_sub_cancel] at y3 y4
  have hc : c < σ 1 2 2 := by omega
  have hb : c < σ 10 0 0 := by have := h5.2 c hc; omega
  obtain ⟨g1, ⟨g5, g5'⟩, g6⟩ := WX_clr h1 h5 h6 e
  have x1 : ∀ i k, goneS σ c s 1 i k = σ 1 i k := fun i k => gox _ _ _ _ _ _ (by simp)
  have x10 : ∀ i k, goneS σ c s 10 i k = σ 10 i k := fun i k => gox _ _ _ _ _ _ (by simp)
  have x26 : ∀ i k, goneS σ c s 26 i k = σ 26 i k := fun i k => gox _ _ _ _ _ _ (by simp)
  have x27 : ∀ i k, goneS σ c s 27 i k = σ 27 i k := fun i k => gox _ _ _ _ _ _ (by simp)
  have x9 : ∀ i, goneS σ c s 2 i 9 = σ 2 i 9 := fun i => gox _ _ _ _ _ _ (by simp)
  refine ⟨fun x hx => ?_, fun j hj => ?_, fun j j' hj hj' => ?_, ?_, ⟨?_, fun x hx => ?_⟩, fun x hx => ?_⟩
  · rw [go25] at hx ⊢
    rw [x1, go3, go4]
    by_cases q : x = s
    · rw [if_pos q] at hx; exact absurd rfl hx
    · rw [if_neg q] at hx ⊢
      obtain ⟨z1, z2, z3, z4⟩ := h1 x hx
      have nc : σ 25 0 x - 1 ≠ c := fun z => by rw [z] at z4; omega
      rw [if_neg nc, if_neg nc]
      exact ⟨z1, z2, z3, z4⟩
  · rw [x1] at hj
    obtain ⟨z1, z2, z3⟩ := h2 j hj
    rw [x26, x27, x1, go3, if_neg (fun q => by rw [q] at z3; omega)]
    exact ⟨z1, z2, z3⟩
  · rw [x1] at hj hj'
    rw [x27, x27]
    exact h3 j j' hj hj'
  · rw [x10, x1]; exact h4
  · rw [x10, x1]; exact h5.1
  · rw [x1] at hx
    rw [go3, x10]
    by_cases q : x = c
    · rw [if_pos q]; omega
    · rw [if_neg q]; exact h5.2 x hx
  · rw [x1] at hx
    rw [go3, go4, x9]
    by_cases q : x = c
    · rw [if_pos q, if_pos q]; exact ⟨fun z => by omega, fun _ => rfl⟩
    · rw [if_neg q, if_neg q]; exact h6 x hx
theorem HX_leave {σ : St} (w : WW σ) : HX σ (leaveS σ) := by
  unfold leaveS
  by_cases q : leaveB σ = true
  · rw [if_pos q]
    have z : σ 25 0 7 ≠ 0 := by
      intro z
      simp [leaveB, z] at q
    have e : σ 25 0 7 = (σ 25 0 7 - 1) + 1 := by omega
    obtain ⟨hc, h3, h4⟩ := car_lt w z
    refine ⟨⟨WI_up (WI_up (WI_clr w.1) (by simp [okU, cx, hc])) (by simp [okU, up, cx, hc]), WL_gone w.2.1 e, WPk_cong w.2.2 (fun p j => gox _ _ _ _ _ _ (by simp)) (fun c k => gox _ _ _ _ _ _ (by simp)) (gox _ _ _ _ _ _ (by simp)) (gox _ _ _ _ _ _ (by simp))⟩, fun i h => gox _ _ _ _ _ _ (by simp), gox _ _ _ _ _ _ (by simp)⟩
  · rw [if_neg q]; exact HX_refl w
theorem HX_move {σ : St} (w : WW σ) {s : Nat} (hs : s < 7) : HX σ (moveS σ s) := by
  unfold moveS
  by_cases q : σ 25 0 s ≠ 0 ∧ σ 25 0 (s + 1) = 0 ∧ doneS σ (σ 25 0 s - 1) s = true
  · rw [if_pos q]
    have z := q.1
    have e : σ 25 0 s = (σ 25 0 s - 1) + 1 := by omega
    obtain ⟨hc, h3, h4⟩ := car_lt w z
    have xx : ∀ a b k, a ≠ 2 → a ≠ 25 → toLine (clr σ s) (σ 25 0 s - 1) (s + 1) a b k = σ a b k := fun a b k q1 q2 => (tlx _ _ _ _ _ _ ⟨q1, q2⟩).trans (cx _ _ _ _ _ q2)
    refine ⟨⟨WI_line (WI_clr w.1) (by rw [cx _ _ _ _ _ (by decide)]; exact hc) (by omega), WL_move w.2.1 e (by omega), WPk_cong w.2.2 (fun p j => xx _ _ _ (by decide) (by decide)) (fun c k => xx _ _ _ (by decide) (by decide)) (xx _ _ _ (by decide) (by decide)) (xx _ _ _ (by decide) (by decide))⟩, fun i h => xx _ _ _ (by decide) (by decide), xx _ _ _ (by decide) (by decide)⟩
  · rw [if_neg q]; exact HX_refl w
theorem HX_moveN {n : Nat} : ∀ {σ : St}, WW σ → n ≤ 7 → HX σ (moveN n σ) := by
  induction n with
  | zero => exact fun w _ => HX_refl w
  | succ n ih =>
    intro σ w hn
    have g := HX_move w (s := n) (by omega)
    exact HX_trans g (ih g.1 (by omega))
section LM
variable {dE : Nat} {ad : Nat → Nat → Nat} {ρ : St} {μ : Mu} {h : Hp}
theorem p_leaveLine (r : RR dE ad ρ μ h) (ww : WW ρ) {post : Int32 → Hp → Prop} (hp : ∀ h', RR dE ad (leaveS ρ) μ h' → post (nI (leaveB ρ).toNat) h') : wp_X5_leaveLine h (ad 7 0) post := by
  have w := ww.1.1
  have v := ww.1.2.1
  unfold wp_X5_leaveLine
  by_cases z : ρ 25 0 7 = 0
  · have lb : leaveB ρ = false := by simp [leaveB, z]
    simp (disch := omega) only [l0, l1, l2, l3, l4, l5, l6, l7, l8, l10, l20, l30, l40, l50, l99, l255, lm1, ex_nI, nI_add, nI_leI, nI_ltI, nI_eq, nI_eqNN, nI_NNeq, tN0, exists_eq_left', exists_eq_left, forall_eq, true_and, and_true, Option.some.injEq, reduceCtorEq, false_implies, implies_true, forall_const, not_false_eq_true, not_true_eq_false, lm1', l9, nI_mul, nI_subN, t_7 r w, r_7_6 r w, t_25 r w, n_25 r w, r_25 r w, am0 z]
    refine ⟨by decide, fun J hJ => hJ ?_⟩
    have hp := hp h (by rw [leaveS, if_neg (by rw [lb]; decide)]; exact r)
    rw [lb] at hp
    exact hp
  · obtain ⟨hc, e3, e4⟩ := car_lt ww z
    have b6 := (v.2.2.1 (ρ 25 0 7 - 1)).2.1
    have z1 : am ad (orl 2 (ρ 25 0 7)) = some (ad 2 (ρ 25 0 7 - 1)) := am1 z
    simp (disch := omega) only [l0, l1, l2, l3, l4, l5, l6, l7, l8, l10, l20, l30, l40, l50, l99, l255, lm1, ex_nI, nI_add, nI_leI, nI_ltI, nI_eq, nI_eqNN, nI_NNeq, tN0, exists_eq_left', exists_eq_left, forall_eq, true_and, and_true, Option.some.injEq, reduceCtorEq, false_implies, implies_true, forall_const, not_false_eq_true, not_true_eq_false, lm1', l9, nI_mul, nI_subN, t_7 r w, r_7_6 r w, t_25 r w, n_25 r w, r_25 r w, z1, forall_eq', t_2 r w hc, i_2_6 r w hc]
    refine ⟨by decide, fun J hJ => ?_⟩
    have no : leaveB ρ = false → J := fun lb => hJ (by
      have hp := hp h (by rw [leaveS, if_neg (by rw [lb]; decide)]; exact r)
      rw [lb] at hp
      exact hp)
    refine p_mask r w v hc ?_
    refine ⟨fun e0 => ?_, fun e0 => no (by simp [leaveB, e0])⟩
    refine ⟨fun e6 => no (by simp [leaveB, e6]), fun e6 => p_fits r w v hc (fun b hb => ?_)⟩
    simp (disch := omega) only [l0, l1, l2, l3, l4, l5, l6, l7, l8, l10, l20, l30, l40, l50, l99, l255, lm1, ex_nI, nI_add, nI_leI, nI_ltI, nI_eq, nI_eqNN, nI_NNeq, tN0, exists_eq_left', exists_eq_left, forall_eq, true_and, and_true, Option.some.injEq, reduceCtorEq, false_implies, implies_true, forall_const, not_false_eq_true, not_true_eq_false, lm1', l9, nI_mul, nI_subN]
    refine ⟨fun e7 => no (by simp [leaveB, ← hb, e7]), fun e7 => p_clear1 r w hc e3 e4 (by decide) (fun h' r' => ?_)⟩
    have eb : b = true := by simpa using e7
    have lb : leaveB ρ = true := by simp [leaveB, ← hb, eb, z, e0, e6]
    have w1 : WA (clr ρ 7) := WA_up w (by omega) (by decide) (by decide) (by decide)
    have vc : V (clr ρ 7) 2 (ρ 25 0 7 - 1) := (w1.2.2.2.2.2.1 _).1.mpr (by rw [cx _ _ _ _ _ (by decide)]; exact hc)
    refine ⟨r'.tag vc, ?_⟩
    have r2 := r'.setI (v := 3) vc (j := 3) rfl (by decide)
    have r3 := r2.setI (v := NN) ((V_up (by decide) _ _).mpr vc) (j := 4) rfl (by decide)
    have hp := hp _ (by rw [leaveS, if_pos lb]; exact r3)
    rw [lb] at hp
    exact hp
theorem p_moveOn (r : RR dE ad ρ μ h) (ww : WW ρ) {post : Hp → Prop} (hp : ∀ h', RR dE ad (moveN 7 ρ) μ h' → post h') : wp_X5_moveOn h (ad 7 0) post := by
  unfold wp_X5_moveOn
  intro J hJ
  have e7 : (6 : Int32) = nI (7 + NN) := by decide
  rw [e7]
  refine lpD (J := fun x v => J v x) (x := h) (fun x v hb => hJ v x hb) 7 (fun n x => ∃ τ, RR dE ad τ μ x ∧ HX ρ τ ∧ moveN n τ = moveN 7 ρ) ⟨ρ, r, HX_refl ww, rfl⟩ (fun n x hn e hst => ?_)
  obtain ⟨τ, r', hx, eN⟩ := e
  cases n with
  | zero =>
    rw [nI_d0]
    simp (disch := omega) only [l0, l1, l2, l3, l4, l5, l6, l7, l8, l10, l20, l30, l40, l50, l99, l255, lm1, ex_nI, nI_add, nI_leI, nI_ltI, nI_eq, nI_eqNN, nI_NNeq, tN0, exists_eq_left', exists_eq_left, forall_eq, true_and, and_true, Option.some.injEq, reduceCtorEq, false_implies, implies_true, forall_const, not_false_eq_true, not_true_eq_false, lm1', l9, nI_mul, nI_subN, NN_lt]
    exact hp x (by rw [← eN]; exact r')
  | succ m =>
    rw [nI_dn]
    have wt := hx.1
    have w := wt.1.1
    have v := wt.1.2.1
    have hm : m < 8 := by omega
    have hm1 : m + 1 < 8 := by omega
    have fin : ∀ h2, RR dE ad (moveS τ m) μ h2 → J (nI (m + NN)) h2 := fun h2 r2 => hst h2 m rfl ⟨moveS τ m, r2, HX_trans hx (HX_move wt (by omega)), by rw [← eN]; rfl⟩
    by_cases z : τ 25 0 m = 0
    · simp (disch := omega) only [l0, l1, l2, l3, l4, l5, l6, l7, l8, l10, l20, l30, l40, l50, l99, l255, lm1, ex_nI, nI_add, nI_leI, nI_ltI, nI_eq, nI_eqNN, nI_NNeq, tN0, exists_eq_left', exists_eq_left, forall_eq, true_and, and_true, Option.some.injEq, reduceCtorEq, false_implies, implies_true, forall_const, not_false_eq_true, not_true_eq_false, lm1', l9, nI_mul, nI_subN, t_7 r' w, r_7_6 r' w, t_25 r' w, n_25 r' w, r_25 r' w, am0 z, hm, Nat.not_lt_zero]
      intro K hK
      exact hK _ (fin x (by rw [moveS, if_neg (fun q => q.1 z)]; exact r'))
    · obtain ⟨hc, e3, e4⟩ := car_lt wt z
      have z1 : am ad (orl 2 (τ 25 0 m)) = some (ad 2 (τ 25 0 m - 1)) := am1 z
      by_cases y : τ 25 0 (m + 1) = 0
      · have y1 : am ad (orl 2 (τ 25 0 (m + 1))) = none := am0 y
        simp (disch := omega) only [l0, l1, l2, l3, l4, l5, l6, l7, l8, l10, l20, l30, l40, l50, l99, l255, lm1, ex_nI, nI_add, nI_leI, nI_ltI, nI_eq, nI_eqNN, nI_NNeq, tN0, exists_eq_left', exists_eq_left, forall_eq, true_and, and_true, Option.some.injEq, reduceCtorEq, false_implies, implies_true, forall_const, not_false_eq_true, not_true_eq_false, lm1', l9, nI_mul, nI_subN, t_7 r' w, r_7_6 r' w, t_25 r' w, n_25 r' w, r_25 r' w, z1, y1, hm, hm1, Nat.not_lt_zero, forall_eq']
        intro K hK
        refine p_done r' w v hc e4 hm (fun b hb => ?_)
        simp (disch := omega) only [l0, l1, l2, l3, l4, l5, l6, l7, l8, l10, l20, l30, l40, l50, l99, l255, lm1, ex_nI, nI_add, nI_leI, nI_ltI, nI_eq, nI_eqNN, nI_NNeq, tN0, exists_eq_left', exists_eq_left, forall_eq, true_and, and_true, Option.some.injEq, reduceCtorEq, false_implies, implies_true, forall_const, not_false_eq_true, not_true_eq_false, lm1', l9, nI_mul, nI_subN]
        refine ⟨fun eb => hK _ (fin x ?_), fun eb => p_enterLine1 r' w hc e3 e4 hm hm1 (fun h' r2 => hK _ (fin h' ?_))⟩
        · rw [moveS, if_neg (fun q => by rw [← hb, eb] at q; cases q.2.2)]; exact r'
        · rw [moveS, if_pos ⟨z, y, by rw [← hb]; simpa using eb⟩]; exact r2
      · have y1 : am ad (orl 2 (τ 25 0 (m + 1))) = some (ad 2 (τ 25 0 (m + 1) - 1)) := am1 y
        simp (disch := omega) only [l0, l1, l2, l3, l4, l5, l6, l7, l8, l10, l20, l30, l40, l50, l99, l255, lm1, ex_nI, nI_add, nI_leI, nI_ltI, nI_eq, nI_eqNN, nI_NNeq, tN0, exists_eq_left', exists_eq_left, forall_eq, true_and, and_true, Option.some.injEq, reduceCtorEq, false_implies, implies_true, forall_const, not_false_eq_true, not_true_eq_false, lm1', l9, nI_mul, nI_subN, t_7 r' w, r_7_6 r' w, t_25 r' w, n_25 r' w, r_25 r' w, z1, y1, hm, hm1, Nat.not_lt_zero, forall_eq']
        intro K hK
        exact hK _ (fin x (by rw [moveS, if_neg (fun q => y q.2.1)]; exact r'))
end LM
