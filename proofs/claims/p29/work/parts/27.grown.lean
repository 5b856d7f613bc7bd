/-! what holds after a list has grown -/
theorem as11 (σ : St) (i t j : Nat) : addS σ i 11 t j = if t = 26 ∧ j = i then 1 else σ 11 t j := by simp [addS, up]
theorem as9 (σ : St) (i k : Nat) : addS σ i 9 k 0 = if k = i then capA (σ 1 i 2) (σ 9 i 0) else σ 9 k 0 := by simp [addS, up]
theorem as1 (σ : St) (i k : Nat) : addS σ i 1 k 2 = if k = i then σ 1 i 2 + 1 else σ 1 k 2 := by simp [addS, up]
theorem asx (σ : St) (i a b k : Nat) (h : a ≠ 1 ∧ a ≠ 9 ∧ a ≠ 11) : addS σ i a b k = σ a b k := by simp [addS, up, h.1, h.2.1, h.2.2]
theorem asV (σ : St) (i t j : Nat) (h : t ≠ 26 ∨ j ≠ i) : V (addS σ i) t j ↔ V σ t j := by
  unfold V
  rw [as11, if_neg (fun z => h.elim (fun q => q z.1) (fun q => q z.2))]
theorem asV1 (σ : St) (i : Nat) : V (addS σ i) 26 i := by
  unfold V
  rw [as11, if_pos ⟨rfl, rfl⟩]
  decide
/-- all that there is but the lots, cars, images and picks -/
def WA0 (σ : St) : Prop :=
  (V σ 7 0 ∧ V σ 7 0 ∧ V σ 23 0 ∧ V σ 25 0 ∧ σ 12 7 0 ≠ 0 ∧ σ 12 7 6 ≠ 0) ∧
  (∀ k, k < 10 → V σ 4 k ∧ σ 12 23 k ≠ 0) ∧
  (∀ i, 1 ≤ i → i ≤ 5 → V σ 1 i ∧ σ 12 1 i ≠ 0 ∧ σ 12 7 i ≠ 0) ∧
  (∀ t, isMA t = true → V σ t 0 ∧ σ 12 8 (t - 30) ≠ 0) ∧
  (∀ i, 1 ≤ i → i ≤ 5 → (V σ 26 i ↔ σ 9 i 0 ≠ 0) ∧ σ 1 i 2 ≤ σ 9 i 0 ∧ σ 9 i 0 < 100000000)
def WA1 (σ : St) (n1 n2 n3 n5 : Nat) : Prop :=
  (∀ i, V σ 5 i ↔ i < n1) ∧
  (∀ i, (V σ 2 i ↔ i < n2) ∧ (V σ 24 i ↔ i < n2) ∧ (i < n2 → σ 12 2 i ≠ 0)) ∧
  (∀ i, (V σ 3 i ↔ i < n3) ∧ (V σ 19 i ↔ i < n3) ∧ (i < n3 → σ 12 3 i ≠ 0)) ∧
  (∀ i, V σ 6 i ↔ i < n5)
theorem WA_01 {σ : St} (w : WA σ) : WA0 σ ∧ WA1 σ (σ 1 1 2) (σ 1 2 2) (σ 1 3 2) (σ 1 5 2) := ⟨⟨w.1, w.2.1, w.2.2.1, w.2.2.2.1, w.2.2.2.2.2.2.2.2⟩, w.2.2.2.2.1, w.2.2.2.2.2.1, w.2.2.2.2.2.2.1, w.2.2.2.2.2.2.2.1⟩
theorem WA_of {σ : St} (a : WA0 σ) {n1 n2 n3 n5 : Nat} (b : WA1 σ n1 n2 n3 n5) (e1 : σ 1 1 2 = n1) (e2 : σ 1 2 2 = n2) (e3 : σ 1 3 2 = n3) (e5 : σ 1 5 2 = n5) : WA σ := by
  subst e1 e2 e3 e5
  exact ⟨a.1, a.2.1, a.2.2.1, a.2.2.2.1, b.1, b.2.1, b.2.2.1, b.2.2.2, a.2.2.2.2⟩
theorem ma_n26 {t : Nat} (m : isMA t = true) : t ≠ 26 := fun e => by rw [e] at m; cases m
theorem WA0_add {σ : St} (w : WA0 σ) {i : Nat} (hl : σ 1 i 2 + 1 ≤ capA (σ 1 i 2) (σ 9 i 0)) (hb : capA (σ 1 i 2) (σ 9 i 0) < 100000000) : WA0 (addS σ i) := by
  obtain ⟨⟨a1, a2, a3, a4, a5, a6⟩, b, c, d, e⟩ := w
  have x12 : ∀ a k, addS σ i 12 a k = σ 12 a k := fun a k => asx σ i 12 a k ⟨by decide, by decide, by decide⟩
  refine ⟨⟨(asV _ _ _ _ (Or.inl (by decide))).mpr a1, (asV _ _ _ _ (Or.inl (by decide))).mpr a2, (asV _ _ _ _ (Or.inl (by decide))).mpr a3, (asV _ _ _ _ (Or.inl (by decide))).mpr a4, by rw [x12]; exact a5, by rw [x12]; exact a6⟩, fun k hk => ?_, fun k h1 h5 => ?_, fun t m => ?_, fun k h1 h5 => ?_⟩
  · rw [x12]; exact ⟨(asV _ _ _ _ (Or.inl (by decide))).mpr (b k hk).1, (b k hk).2⟩
  · rw [x12, x12]; exact ⟨(asV _ _ _ _ (Or.inl (by decide))).mpr (c k h1 h5).1, (c k h1 h5).2⟩
  · rw [x12]; exact ⟨(asV _ _ _ _ (Or.inl (ma_n26 m))).mpr (d t m).1, (d t m).2⟩
  · rw [as9, as1]
    by_cases q : k = i
    · subst q
      rw [if_pos rfl, if_pos rfl]
      exact ⟨⟨fun _ => by omega, fun _ => asV1 σ k⟩, hl, hb⟩
    · rw [if_neg q, if_neg q, asV _ _ _ _ (Or.inr q)]
      exact e k h1 h5
theorem WA1_add {σ : St} {i n1 n2 n3 n5 : Nat} (w : WA1 σ n1 n2 n3 n5) : WA1 (addS σ i) n1 n2 n3 n5 := by
  obtain ⟨a, b, c, d⟩ := w
  have x12 : ∀ a k, addS σ i 12 a k = σ 12 a k := fun a k => asx σ i 12 a k ⟨by decide, by decide, by decide⟩
  refine ⟨fun k => ?_, fun k => ?_, fun k => ?_, fun k => ?_⟩
  · rw [asV _ _ _ _ (Or.inl (by decide))]; exact a k
  · rw [asV _ _ _ _ (Or.inl (by decide)), asV _ _ _ _ (Or.inl (by decide)), x12]; exact b k
  · rw [asV _ _ _ _ (Or.inl (by decide)), asV _ _ _ _ (Or.inl (by decide)), x12]; exact c k
  · rw [asV _ _ _ _ (Or.inl (by decide))]; exact d k
/-- values, signs, zeros: all but sizes stays, sizes grow -/
theorem WV_add {σ : St} (w : WV σ) {i : Nat} (hi : (i = 4 ∧ σ 1 4 2 < 30) ∨ i = 5) : WV (addS σ i) := by
  have x : ∀ a b k, a ≠ 1 → a ≠ 9 → a ≠ 11 → addS σ i a b k = σ a b k := fun a b k p q r => asx σ i a b k ⟨p, q, r⟩
  have x2 : ∀ b k, addS σ i 2 b k = σ 2 b k := fun b k => x 2 b k (by decide) (by decide) (by decide)
  have x3 : ∀ b k, addS σ i 3 b k = σ 3 b k := fun b k => x 3 b k (by decide) (by decide) (by decide)
  have x4 : ∀ b k, addS σ i 4 b k = σ 4 b k := fun b k => x 4 b k (by decide) (by decide) (by decide)
  have x5 : ∀ b k, addS σ i 5 b k = σ 5 b k := fun b k => x 5 b k (by decide) (by decide) (by decide)
  have x19 : ∀ b k, addS σ i 19 b k = σ 19 b k := fun b k => x 19 b k (by decide) (by decide) (by decide)
  have x24 : ∀ b k, addS σ i 24 b k = σ 24 b k := fun b k => x 24 b k (by decide) (by decide) (by decide)
  have x25 : ∀ b k, addS σ i 25 b k = σ 25 b k := fun b k => x 25 b k (by decide) (by decide) (by decide)
  have s1 : addS σ i 1 1 2 = σ 1 1 2 := by rw [as1, if_neg (by omega)]
  have s2 : addS σ i 1 2 2 = σ 1 2 2 := by rw [as1, if_neg (by omega)]
  have s3 : addS σ i 1 3 2 = σ 1 3 2 := by rw [as1, if_neg (by omega)]
  have s4 : addS σ i 1 4 2 ≤ 30 := by
    rw [as1]
    have := w.2.2.2.2.1.2.2.2
    rcases hi with ⟨h1, h2⟩ | h1
    · rw [if_pos h1.symm, h1]; omega
    · rw [if_neg (by omega)]; exact this
  obtain ⟨w1, w2, w3, w4, ⟨v1, v2, v3, v4⟩, w6, w7, w8, w9, w10, w11⟩ := w
  unfold WV
  simp only [x2, x3, x4, x5, x19, x24, x25, s1, s2, s3]
  exact ⟨w1, w2, w3, w4, ⟨v1, v2, v3, s4⟩, w6, w7, w8, w9, w10, w11⟩
theorem WSg_add {σ : St} (w : WSg σ) {i : Nat} : WSg (addS σ i) := by
  intro n c hc
  unfold sgnd
  rw [asx σ i 28 n c ⟨by decide, by decide, by decide⟩, asx σ i 3 n 2 ⟨by decide, by decide, by decide⟩]
  exact w n c hc
theorem WC_add4 {σ : St} (w : WC σ) (hn : σ 1 4 2 < 40) : WC (addS σ 4) := by
  refine ⟨fun i h1 h4 => ?_, ?_, ?_⟩
  · rw [as9]
    by_cases q : i = 4
    · rw [if_pos q]; exact (capA_le (w.1 4 (by decide) (by decide)) hn).2.1
    · rw [if_neg q]; exact w.1 i h1 h4
  · rw [as9, if_neg (by decide)]; exact w.2.1
  · rw [as9, if_neg (by decide), as1, if_neg (by decide)]; exact w.2.2
theorem WC_add5 {σ : St} (w : WC σ) : WC (addS σ 5) := by
  obtain ⟨a, b, -, -⟩ := capA5 w.2.1 w.2.2
  refine ⟨fun i h1 h4 => ?_, ?_, ?_⟩
  · rw [as9, if_neg (by omega)]; exact w.1 i h1 h4
  · rw [as9, if_pos rfl]; exact a
  · rw [as9, if_pos rfl, as1, if_pos rfl]; exact b
theorem WZ_add {σ : St} (w : WZ σ) {i : Nat} (hi : i = 4 ∨ i = 5) : WZ (addS σ i) := by
  have x : ∀ a b k, a ≠ 1 → a ≠ 9 → a ≠ 11 → addS σ i a b k = σ a b k := fun a b k p q r => asx σ i a b k ⟨p, q, r⟩
  have s1 : addS σ i 1 1 2 = σ 1 1 2 := by rw [as1, if_neg (by omega)]
  have s2 : addS σ i 1 2 2 = σ 1 2 2 := by rw [as1, if_neg (by omega)]
  have s3 : addS σ i 1 3 2 = σ 1 3 2 := by rw [as1, if_neg (by omega)]
  have s5 : σ 1 5 2 ≤ addS σ i 1 5 2 := by
    rw [as1]
    split
    · rename_i q; rw [← q]; omega
    · exact Nat.le_refl _
  obtain ⟨a, b, c, d⟩ := w
  refine ⟨fun l j h => ?_, fun l j h => ?_, fun l j h => ?_, fun l j h => ?_⟩
  · rw [x 5 l j (by decide) (by decide) (by decide)]; rw [s1] at h; exact a l j h
  · rw [x 2 l j (by decide) (by decide) (by decide), x 24 l j (by decide) (by decide) (by decide)]; rw [s2] at h; exact b l j h
  · rw [x 3 l j (by decide) (by decide) (by decide), x 19 l j (by decide) (by decide) (by decide), x 28 l j (by decide) (by decide) (by decide)]; rw [s3] at h; exact c l j h
  · rw [x 6 l j (by decide) (by decide) (by decide)]; exact d l j (by omega)
theorem WI_add4 {σ : St} (w : WI σ) (hn : σ 1 4 2 < 30) : WI (addS σ 4) := by
  obtain ⟨a, b, c, d, e⟩ := w
  obtain ⟨a0, a1⟩ := WA_01 a
  obtain ⟨k1, k2, k3⟩ := capA_le (d.1 4 (by decide) (by decide)) (show σ 1 4 2 < 40 by omega)
  refine ⟨WA_of (WA0_add a0 (k3 (a.2.2.2.2.2.2.2.2 4 (by decide) (by decide)).2.1) (by omega)) (WA1_add a1) ?_ ?_ ?_ ?_, WV_add b (Or.inl ⟨rfl, hn⟩), WSg_add c, WC_add4 d (by omega), WZ_add e (Or.inl rfl)⟩
  all_goals rw [as1, if_neg (by decide)]
theorem WI_line {σ : St} (w : WI σ) {c s : Nat} (hc : c < σ 1 2 2) (hs : s < 8) : WI (toLine σ c s) :=
  WI_up (WI_up (WI_up (WI_up w (by simp [okU, hc])) (by simp [okU, up, hc, hs])) (by simp [okU, up, hc, hs])) (by simp [okU, up]; omega)
theorem WI_clr {σ : St} (w : WI σ) {s : Nat} : WI (clr σ s) := WI_up w (by simp [okU])
theorem WI_lane {σ : St} (w : WI σ) {c s : Nat} (hc : c < σ 1 2 2) (hs : s < 8) (hn : σ 1 4 2 < 30) : WI (toLane σ c s) := by
  have w5 := WI_up (i := 0) (j := σ 1 4 2) (v := c) (t := 27) (WI_up (i := 4) (j := σ 1 4 2) (v := c) (t := 26) (WI_up (t := 2) (i := c) (j := 9) (v := s) (WI_up (t := 2) (i := c) (j := 4) (v := s) (WI_up (t := 2) (i := c) (j := 3) (v := 2) w (by simp [okU, hc])) (by simp [okU, up, hc, hs])) (by simp [okU, up, hc, hs])) (by simp [okU, up])) (by simp [okU, up])
  refine WI_up (WI_add4 w5 ?_) (by simp [okU])
  simp [up]
  exact hn

