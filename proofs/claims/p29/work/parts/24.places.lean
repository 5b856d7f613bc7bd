/-! what the line writes; its places -/
def clr (σ : St) (s : Nat) : St := up σ 25 0 s 0
def toLine (σ : St) (c s : Nat) : St := up (up (up (up σ 2 c 3 1) 2 c 4 s) 2 c 9 s) 25 0 s (c + 1)
def toLane (σ : St) (c s : Nat) : St := up (addS (up (up (up (up (up σ 2 c 3 2) 2 c 4 s) 2 c 9 s) 26 4 (σ 1 4 2) c) 27 0 (σ 1 4 2) c) 4) 10 0 1 (σ 1 4 2 + 1)
theorem WA_up {σ : St} (w : WA σ) {t i j v : Nat} (n1 : ¬ (t = 1 ∧ j = 2)) (n9 : t ≠ 9) (n11 : t ≠ 11) (n12 : t ≠ 12) : WA (up σ t i j v) := by
  have e1 : ∀ k, up σ t i j v 1 k 2 = σ 1 k 2 := fun k => up_ne (fun z => n1 ⟨z.1.symm, z.2.2.symm⟩)
  have e9 : ∀ k, up σ t i j v 9 k 0 = σ 9 k 0 := fun k => up_ne (fun z => n9 z.1.symm)
  have e12 : ∀ a k, up σ t i j v 12 a k = σ 12 a k := fun a k => up_ne (fun z => n12 z.1.symm)
  have e11 : ∀ a k, up σ t i j v 11 a k = σ 11 a k := fun a k => up_ne (fun z => n11 z.1.symm)
  unfold WA V at *
  simp only [e1, e9, e12, e11]
  exact w
theorem cr_ref {ρ : St} {t i j v : Nat} (ht : t = 25 ∨ t = 24 ∨ (t = 2 ∧ j = 5)) {a b k : Nat} (n : ¬ (a = t ∧ b = i ∧ k = j)) : cr (up ρ t i j v) a b k = cr ρ a b k := by
  have e1 : ∀ k, up ρ t i j v 1 k 2 = ρ 1 k 2 := fun k => up_ne (fun z => by omega)
  have e9 : ∀ k, up ρ t i j v 9 k 0 = ρ 9 k 0 := fun k => up_ne (fun z => by omega)
  have e12 : ∀ a k, up ρ t i j v 12 a k = ρ 12 a k := fun a k => up_ne (fun z => by omega)
  have e26 : ∀ q, up ρ t i j v 26 4 q = ρ 26 4 q := fun q => up_ne (fun z => by omega)
  have e25 : a = 25 → up ρ t i j v 25 b k = ρ 25 b k := fun ea => up_ne (fun z => n ⟨ea.trans z.1, z.2.1, z.2.2⟩)
  have e24 : a = 24 → up ρ t i j v 24 b k = ρ 24 b k := fun ea => up_ne (fun z => n ⟨ea.trans z.1, z.2.1, z.2.2⟩)
  have e2 : a = 2 → k = 5 → up ρ t i j v 2 b 5 = ρ 2 b 5 := fun ea ek => up_ne (fun z => n ⟨ea.trans z.1, z.2.1, ek.trans z.2.2⟩)
  unfold cr elm
  split
  all_goals first
    | rfl
    | (rw [e25 rfl]; done)
    | (rw [e24 rfl]; done)
    | (simp only [e1, e9, e26, e12]; done)
    | skip
  by_cases k5 : k = 5
  · rw [e2 rfl k5]
    simp only [e12]
  · rw [if_neg k5, if_neg k5]
    simp only [e12]
section LW
variable {dE : Nat} {ad : Nat → Nat → Nat} {ρ : St} {μ : Mu} {h : Hp}
theorem RR.setF {t i j v T : Nat} (r : RR dE ad ρ μ h) (w : V ρ t i) (ht : t = 25 ∨ t = 24 ∨ (t = 2 ∧ j = 5)) (hc : ∀ σ : St, cr σ t i j = some (orl T (σ t i j))) (hv : v ≠ 0 → V ρ T (v - 1)) : RR dE ad (up ρ t i j v) μ (sR h (ad t i) j (am ad (orl T v))) := by
  refine r.setR (x := orl T v) w (fun p hp => ?_) (V_up (by omega)) (fun a b => lnL_up (by omega) a b) (fun a b k wi => up_ne (fun z => ?_)) (fun a b k y va wa => ?_) (up_ne (fun z => by omega))
  · unfold orl at hp
    by_cases z : v = 0
    · rw [if_pos z] at hp; cases hp
    · rw [if_neg z] at hp
      injection hp with hp
      subst hp
      exact hv z
  · rw [z.1, z.2.2] at wi
    rcases ht with e | e | ⟨e, e2⟩
    · rw [e] at wi; cases wi
    · rw [e] at wi; cases wi
    · rw [e, e2] at wi; cases wi
  · by_cases e : a = t ∧ b = i ∧ k = j
    · obtain ⟨rfl, rfl, rfl⟩ := e
      rw [hc, up_eq] at wa
      injection wa with wa
      exact Or.inl ⟨rfl, rfl, rfl, wa.symm⟩
    · rw [cr_ref ht e] at wa
      exact Or.inr ⟨e, wa⟩
theorem RR.setLine {s v : Nat} (r : RR dE ad ρ μ h) (w : V ρ 25 0) (hv : v ≠ 0 → V ρ 2 (v - 1)) : RR dE ad (up ρ 25 0 s v) μ (sR h (ad 25 0) s (am ad (orl 2 v))) := r.setF w (Or.inl rfl) (fun _ => rfl) hv
theorem RR.setPart {c k v : Nat} (r : RR dE ad ρ μ h) (w : V ρ 24 c) (hv : v ≠ 0 → V ρ 5 (v - 1)) : RR dE ad (up ρ 24 c k v) μ (sR h (ad 24 c) k (am ad (orl 5 v))) := r.setF w (Or.inr (Or.inl rfl)) (fun _ => rfl) hv
theorem RR.setHeld {c v : Nat} (r : RR dE ad ρ μ h) (w : V ρ 2 c) (hv : v ≠ 0 → V ρ 3 (v - 1)) : RR dE ad (up ρ 2 c 5 v) μ (sR h (ad 2 c) 5 (am ad (orl 3 v))) := r.setF w (Or.inr (Or.inr ⟨rfl, rfl⟩)) (fun _ => rfl) hv
theorem am1' {t v x : Nat} (e : ad t v = x) : am ad (orl t (v + 1)) = some x := by rw [am1 (by omega), Nat.add_sub_cancel, e]
theorem p_clear1 (r : RR dE ad ρ μ h) (w : WA ρ) {c s : Nat} (hc : c < ρ 1 2 2) (e3 : ρ 2 c 3 = 1) (e4 : ρ 2 c 4 = s) (hs : s < 8) {post : Hp → Prop} (hp : ∀ h', RR dE ad (clr ρ s) μ h' → post h') : wp_X5_clearPlaceOf h (ad 7 0) (ad 2 c) post := by
  have hs0 : ¬ 8 ≤ s := by omega
  unfold wp_X5_clearPlaceOf wp_X5_isStation
  simp (disch := omega) only [l0, l1, l2, l3, l4, l5, l6, l7, l8, l10, l20, l30, l40, l50, l99, l255, lm1, ex_nI, nI_add, nI_leI, nI_ltI, nI_eq, nI_eqNN, nI_NNeq, tN0, exists_eq_left', exists_eq_left, forall_eq, true_and, and_true, Option.some.injEq, reduceCtorEq, false_implies, implies_true, forall_const, not_false_eq_true, not_true_eq_false, lm1', l9, nI_mul, nI_subN, t_2 r w hc, i_2_3 r w hc, i_2_4 r w hc, e3, e4, hs0, Nat.not_lt_zero, t_7 r w, r_7_6 r w, t_25 r w, n_25 r w, hs]
  intro J hJ K hK M hM
  refine hK (nI 1) ⟨Or.inr rfl, ⟨fun q => absurd q (by decide), fun _ => hJ _ (hp _ ?_)⟩⟩
  exact r.setLine (v := 0) w.1.2.2.2.1 (fun z => absurd rfl z)
theorem p_clear0 (r : RR dE ad ρ μ h) (w : WA ρ) {c : Nat} (hc : c < ρ 1 2 2) (e3 : ρ 2 c 3 ≠ 1) (b3 : ρ 2 c 3 ≤ 3) {post : Hp → Prop} (hp : post h) : wp_X5_clearPlaceOf h (ad 7 0) (ad 2 c) post := by
  unfold wp_X5_clearPlaceOf
  simp (disch := omega) only [l0, l1, l2, l3, l4, l5, l6, l7, l8, l10, l20, l30, l40, l50, l99, l255, lm1, ex_nI, nI_add, nI_leI, nI_ltI, nI_eq, nI_eqNN, nI_NNeq, tN0, exists_eq_left', exists_eq_left, forall_eq, true_and, and_true, Option.some.injEq, reduceCtorEq, false_implies, implies_true, forall_const, not_false_eq_true, not_true_eq_false, lm1', l9, nI_mul, nI_subN, t_2 r w hc, i_2_3 r w hc, e3]
  exact fun J hJ => hJ _ hp

theorem p_enter {c s : Nat} (hs : s < 8) {post : Hp → Prop} {h1 : Hp} {σ : St} (hc : c < σ 1 2 2) (r1 : RR dE ad σ μ h1) (w1 : WA σ) (hp : ∀ h', RR dE ad (toLine σ c s) μ h' → post h') :
    (hT h1 (ad 2 c) = 2 ∧ (∀ h4, h4 = sI h1 (ad 2 c) 3 (1 : Int32) → (∀ h6, h6 = sI h4 (ad 2 c) 4 (nI s) → (hT h6 (ad 7 0) = 7 ∧ (∃ a8 : Nat, hR h6 (ad 7 0) 6 = some a8 ∧ (hT h6 a8 = 25 ∧ (∃ j10 : Nat, nI s = nI j10 ∧ j10 < 2147483648 ∧ j10 < hL h6 a8 ∧ (∀ h12, h12 = sR h6 a8 j10 (some (ad 2 c)) → post h12)))))))) := by
  have v2 : V σ 2 c := (w1.2.2.2.2.2.1 c).1.mpr hc
  refine ⟨r1.tag v2, fun h4 e4 h6 e6 => ?_⟩
  have r4 : RR dE ad (up σ 2 c 3 1) μ h4 := by rw [e4]; exact r1.setI v2 rfl (by decide)
  have w4 : WA (up σ 2 c 3 1) := WA_up w1 (by omega) (by decide) (by decide) (by decide)
  have r6 : RR dE ad (up (up σ 2 c 3 1) 2 c 4 s) μ h6 := by rw [e6]; exact r4.setI ((V_up (by decide) _ _).mpr v2) rfl (by decide)
  have w6 : WA (up (up σ 2 c 3 1) 2 c 4 s) := WA_up w4 (by omega) (by decide) (by decide) (by decide)
  have r7 : RR dE ad (up (up (up σ 2 c 3 1) 2 c 4 s) 2 c 9 s) μ h6 := r6.irr rfl rfl
  have w7 : WA (up (up (up σ 2 c 3 1) 2 c 4 s) 2 c 9 s) := WA_up w6 (by omega) (by decide) (by decide) (by decide)
  refine ⟨t_7 r6 w6, _, r_7_6 r6 w6, t_25 r6 w6, s, rfl, by omega, ?_, fun h12 e12 => hp _ ?_⟩
  · rw [n_25 r6 w6]
    exact hs
  · rw [e12, ← am1' (t := 2) (v := c) rfl]
    refine r7.setLine w7.1.2.2.2.1 (fun _ => ?_)
    rw [Nat.add_sub_cancel]
    exact (V_up (by decide) _ _).mpr ((V_up (by decide) _ _).mpr ((V_up (by decide) _ _).mpr v2))
theorem p_enterLine1 (r : RR dE ad ρ μ h) (w : WA ρ) {c s s0 : Nat} (hc : c < ρ 1 2 2) (e3 : ρ 2 c 3 = 1) (e4 : ρ 2 c 4 = s0) (hs0 : s0 < 8) (hs : s < 8) {post : Hp → Prop} (hp : ∀ h', RR dE ad (toLine (clr ρ s0) c s) μ h' → post h') : wp_X5_enterLine h (ad 7 0) (ad 2 c) (nI s) post := by
  unfold wp_X5_enterLine
  refine ⟨t_7 r w, p_clear1 r w hc e3 e4 hs0 (fun h1 r1 => p_enter hs ?_ r1 (WA_up w (by omega) (by decide) (by decide) (by decide)) hp)⟩
  show c < up ρ 25 0 s0 0 1 2 2
  rw [up_ne (fun z => by cases z.1)]
  exact hc
theorem p_enterLine0 (r : RR dE ad ρ μ h) (w : WA ρ) {c s : Nat} (hc : c < ρ 1 2 2) (e3 : ρ 2 c 3 ≠ 1) (b3 : ρ 2 c 3 ≤ 3) (hs : s < 8) {post : Hp → Prop} (hp : ∀ h', RR dE ad (toLine ρ c s) μ h' → post h') : wp_X5_enterLine h (ad 7 0) (ad 2 c) (nI s) post := by
  unfold wp_X5_enterLine
  exact ⟨t_7 r w, p_clear0 r w hc e3 b3 (p_enter hs hc r w hp)⟩
theorem WA_li (w : WA ρ) {i : Nat} (h1 : 1 ≤ i) (h5 : i ≤ 5) (c10 : ρ 9 i 0 = 0 ∨ 10 ≤ ρ 9 i 0) (bg : ρ 9 i 0 < 89000000) : WLi ρ i := ⟨(w.2.2.1 i h1 h5).1, (w.2.2.1 i h1 h5).2.1, (w.2.2.2.2.2.2.2.2 i h1 h5).1, (w.2.2.2.2.2.2.2.2 i h1 h5).2.1, bg, c10⟩
/-- the element of a list that isn't told yet -/
theorem RR.irrE (r : RR dE ad ρ μ h) {n v : Nat} (en : ρ 1 4 2 ≤ n) : RR dE ad (up ρ 26 4 n v) μ h := by
  refine r.congL (V_up (by decide)) (fun a b _ => lnL_up (by decide) a b) (fun a b k va wa => by rw [up_ne (fun z => by rw [z.1] at wa; cases wa)]; exact r.int va wa) (fun a b k x va wa => r.2.2.2.1 a b k x va ?_) (up_ne (fun z => by cases z.1))
  rw [← wa]
  have e1 : ∀ k, up ρ 26 4 n v 1 k 2 = ρ 1 k 2 := fun k => up_ne (fun z => by cases z.1)
  have e9 : ∀ k, up ρ 26 4 n v 9 k 0 = ρ 9 k 0 := fun k => up_ne (fun z => by cases z.1)
  have e12 : ∀ a k, up ρ 26 4 n v 12 a k = ρ 12 a k := fun a k => up_ne (fun z => by cases z.1)
  have e25 : ∀ a k, up ρ 26 4 n v 25 a k = ρ 25 a k := fun a k => up_ne (fun z => by cases z.1)
  have e24 : ∀ k q, up ρ 26 4 n v 24 k q = ρ 24 k q := fun k q => up_ne (fun z => by cases z.1)
  have e2 : ∀ k, up ρ 26 4 n v 2 k 5 = ρ 2 k 5 := fun k => up_ne (fun z => by cases z.1)
  by_cases e26 : a = 26
  · subst e26
    show (if _ then _ else _) = (if _ then _ else _)
    rw [e1]
    by_cases hk : k < ρ 1 b 2
    · rw [if_pos hk, if_pos hk]
      congr 2
      unfold elm
      by_cases b4 : b = 4
      · subst b4
        have : up ρ 26 4 n v 26 4 k = ρ 26 4 k := up_ne (fun z => by omega)
        rw [this]
      · simp only [if_neg b4]
    · rw [if_neg hk, if_neg hk]
  · unfold cr
    split
    all_goals first | rfl | exact absurd rfl e26 | simp only [e1, e9, e25, e24, e2, e12]
theorem p_addLane (r : RR dE ad ρ μ h) (w : WA ρ) {c : Nat} (hc : c < ρ 1 2 2) (e : ρ 26 4 (ρ 1 4 2) = c) (cp : ρ 9 4 0 = 0 ∨ 10 ≤ ρ 9 4 0) (cb : capA (ρ 1 4 2) (ρ 9 4 0) ≤ 49) {post : Int32 → Hp → Prop} (hp : ∀ ad' h', (∀ t j, t ≠ 26 → ad' t j = ad t j) → RR dE ad' (addS ρ 4) μ h' → post (nI 1) h') : wp_Jx4a65c_add_9ea2d dE 1 49 h (ad 1 4) (ad 2 c) post := by
  have bg : ρ 9 4 0 ≤ 49 := by
    unfold capA at cb
    split at cb
    · split at cb <;> omega
    · exact cb
  refine p_add (i := 4) (p := (2, c)) r (WA_li w (by decide) (by decide) cp (by omega)) ?_ ((w.2.2.2.2.2.1 c).1.mpr hc) (fun _ => ⟨by omega, cb⟩) hp
  show (2, ρ 26 4 (ρ 1 4 2)) = (2, c)
  rw [e]
theorem p_lane {σ : St} {h1 : Hp} (r1 : RR dE ad σ μ h1) (w1 : WA σ) {c s : Nat} (hc : c < σ 1 2 2) (cp : σ 9 4 0 = 0 ∨ 10 ≤ σ 9 4 0) (cb : capA (σ 1 4 2) (σ 9 4 0) ≤ 49) {post : Hp → Prop} (hp : ∀ ad' h', (∀ t j, t ≠ 26 → ad' t j = ad t j) → RR dE ad' (toLane σ c s) μ h' → post h') :
    (hT h1 (ad 2 c) = 2 ∧ (∀ h4, h4 = sI h1 (ad 2 c) 3 (2 : Int32) → (∀ h6, h6 = sI h4 (ad 2 c) 4 (nI s) → (hT h6 (ad 7 0) = 7 ∧ (∃ a8 : Nat, hR h6 (ad 7 0) 4 = some a8 ∧ (hT h6 a8 = 1 ∧ wp_Jx4a65c_add_9ea2d dE 1 49 h6 a8 (ad 2 c) (fun x9 h9 => post h9))))))) := by
  have v2 : V σ 2 c := (w1.2.2.2.2.2.1 c).1.mpr hc
  refine ⟨r1.tag v2, fun h4 e4 h6 e6 => ?_⟩
  have r4 : RR dE ad (up σ 2 c 3 2) μ h4 := by rw [e4]; exact r1.setI v2 rfl (by decide)
  have r6 : RR dE ad (up (up σ 2 c 3 2) 2 c 4 s) μ h6 := by rw [e6]; exact r4.setI ((V_up (by decide) _ _).mpr v2) rfl (by decide)
  have r7 : RR dE ad (up (up (up σ 2 c 3 2) 2 c 4 s) 2 c 9 s) μ h6 := r6.irr rfl rfl
  have n7 : up (up (up σ 2 c 3 2) 2 c 4 s) 2 c 9 s 1 4 2 = σ 1 4 2 := by rw [up_ne (fun z => by cases z.1), up_ne (fun z => by cases z.1), up_ne (fun z => by cases z.1)]
  have r8 : RR dE ad (up (up (up (up σ 2 c 3 2) 2 c 4 s) 2 c 9 s) 26 4 (σ 1 4 2) c) μ h6 := r7.irrE (by omega)
  have r9 : RR dE ad (up (up (up (up (up σ 2 c 3 2) 2 c 4 s) 2 c 9 s) 26 4 (σ 1 4 2) c) 27 0 (σ 1 4 2) c) μ h6 := r8.irr rfl rfl
  have w9 : WA (up (up (up (up (up σ 2 c 3 2) 2 c 4 s) 2 c 9 s) 26 4 (σ 1 4 2) c) 27 0 (σ 1 4 2) c) := WA_up (WA_up (WA_up (WA_up (WA_up w1 (by omega) (by decide) (by decide) (by decide)) (by omega) (by decide) (by decide) (by decide)) (by omega) (by decide) (by decide) (by decide)) (by omega) (by decide) (by decide) (by decide)) (by omega) (by decide) (by decide) (by decide)
  have n9 : ∀ a b k, a ≠ 2 → a ≠ 26 → a ≠ 27 → up (up (up (up (up σ 2 c 3 2) 2 c 4 s) 2 c 9 s) 26 4 (σ 1 4 2) c) 27 0 (σ 1 4 2) c a b k = σ a b k := fun a b k m1 m2 m3 => by rw [up_ne (fun z => m3 z.1), up_ne (fun z => m2 z.1), up_ne (fun z => m1 z.1), up_ne (fun z => m1 z.1), up_ne (fun z => m1 z.1)]
  have q1 := n9 1 4 2 (by decide) (by decide) (by decide)
  have q9 := n9 9 4 0 (by decide) (by decide) (by decide)
  have qc := n9 1 2 2 (by decide) (by decide) (by decide)
  have qe : up (up (up (up (up σ 2 c 3 2) 2 c 4 s) 2 c 9 s) 26 4 (σ 1 4 2) c) 27 0 (σ 1 4 2) c 26 4 (σ 1 4 2) = c := by rw [up_ne (fun z => by cases z.1), up_eq]
  refine ⟨t_7 r9 w9, _, r_7_4 r9 w9, t_1 r9 w9 (by decide) (by decide), ?_⟩
  exact p_addLane r9 w9 (by rw [qc]; exact hc) (by rw [q1, qe]) (by rw [q9]; exact cp) (by rw [q1, q9]; exact cb) (fun ad' h' ha r' => hp ad' h' ha (r'.irr rfl rfl))
theorem p_enterLane (r : RR dE ad ρ μ h) (w : WA ρ) {c s s0 : Nat} (hc : c < ρ 1 2 2) (e3 : ρ 2 c 3 = 1) (e4 : ρ 2 c 4 = s0) (hs0 : s0 < 8) (cp : ρ 9 4 0 = 0 ∨ 10 ≤ ρ 9 4 0) (cb : capA (ρ 1 4 2) (ρ 9 4 0) ≤ 49) {post : Hp → Prop} (hp : ∀ ad' h', (∀ t j, t ≠ 26 → ad' t j = ad t j) → RR dE ad' (toLane (clr ρ s0) c s) μ h' → post h') : wp_X5_enterLane dE h (ad 7 0) (ad 2 c) (nI s) post := by
  have en : clr ρ s0 1 4 2 = ρ 1 4 2 := up_ne (fun z => by cases z.1)
  have e9 : clr ρ s0 9 4 0 = ρ 9 4 0 := up_ne (fun z => by cases z.1)
  have ec : clr ρ s0 1 2 2 = ρ 1 2 2 := up_ne (fun z => by cases z.1)
  unfold wp_X5_enterLane
  refine ⟨t_7 r w, p_clear1 r w hc e3 e4 hs0 (fun h1 r1 => ?_)⟩
  exact p_lane r1 (WA_up w (by omega) (by decide) (by decide) (by decide)) (by rw [ec]; exact hc) (by rw [e9]; exact cp) (by rw [en, e9]; exact cb) hp
end LW
