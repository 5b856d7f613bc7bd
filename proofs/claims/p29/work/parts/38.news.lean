/-! new lots, cars and images: the states -/
def AH (ad ad' : Nat → Nat → Nat) : Prop := ad' 7 0 = ad 7 0 ∧ ad' 8 0 = ad 8 0 ∧ ad' 22 0 = ad 22 0
theorem AH_refl {ad : Nat → Nat → Nat} : AH ad ad := ⟨rfl, rfl, rfl⟩
theorem AH_of {ad ad' : Nat → Nat → Nat} (h : AG ad ad') : AH ad ad' := ⟨h 7 0 (by decide) (by decide), h 8 0 (by decide) (by decide), h 22 0 (by decide) (by decide)⟩
theorem AH_trans {a b c : Nat → Nat → Nat} (h : AH a b) (g : AH b c) : AH a c := ⟨g.1.trans h.1, g.2.1.trans h.2.1, g.2.2.trans h.2.2⟩
def lotI (σ : St) (n k v u : Nat) : St := up (up (up (up (up (up σ 11 5 n 1) 5 n 4 0) 5 n 0 n) 5 n 1 k) 5 n 2 v) 5 n 3 u
def lotS (σ : St) (k v u : Nat) : St := addS (lotI σ (σ 1 1 2) k v u) 1
def orderI (σ : St) (n o : Nat) : St := up (up (up (up (up (up (up (up (up (up (up (up σ 12 2 n 0) 11 2 n 1) 11 24 n 1) 12 2 n 1) 2 n 3 0) 2 n 4 NN) 2 n 5 0) 2 n 6 0) 2 n 7 0) 2 n 8 0) 2 n 0 n) 2 n 1 o
def orderS (σ : St) (o : Nat) : St := addS (orderI σ (σ 1 2 2) o) 2
def imgA (σ : St) (n : Nat) : St := up (up (up (up (up (up σ 12 3 n 0) 11 3 n 1) 11 19 n 1) 12 3 n 1) 3 n 2 0) 3 n 0 n
def imgV (σ : St) (c n : Nat) : Nat → St → St
  | 0, τ => τ
  | k + 1, τ => up (imgV σ c n k τ) 19 n k (sv σ c k)
def imgS (σ : St) (c : Nat) : St := addS (imgV σ c (σ 1 3 2) 10 (imgA σ (σ 1 3 2))) 3
/-! what they read -/
theorem lIx (σ : St) (n k v u a b d : Nat) (h : a ≠ 5 ∧ a ≠ 11) : lotI σ n k v u a b d = σ a b d := by simp [lotI, up, h.1, h.2]
theorem lI5 (σ : St) (n k v u p j : Nat) : lotI σ n k v u 5 p j = if p = n then (if j = 0 then n else if j = 1 then k else if j = 2 then v else if j = 3 then u else if j = 4 then 0 else σ 5 p j) else σ 5 p j := by
  by_cases e : p = n
  · subst e
    rw [if_pos rfl]
    by_cases j0 : j = 0
    · subst j0; simp [lotI, up]
    · by_cases j1 : j = 1
      · subst j1; simp [lotI, up]
      · by_cases j2 : j = 2
        · subst j2; simp [lotI, up]
        · by_cases j3 : j = 3
          · subst j3; simp [lotI, up]
          · by_cases j4 : j = 4
            · subst j4; simp [lotI, up]
            · simp [lotI, up, j0, j1, j2, j3, j4]
  · simp [lotI, up, e]
theorem lI11 (σ : St) (n k v u t j : Nat) : lotI σ n k v u 11 t j = if t = 5 ∧ j = n then 1 else σ 11 t j := by simp [lotI, up]
theorem lSx (σ : St) (k v u a b d : Nat) (h : a ≠ 1 ∧ a ≠ 5 ∧ a ≠ 9 ∧ a ≠ 11) : lotS σ k v u a b d = σ a b d := by
  unfold lotS
  rw [asx _ _ _ _ _ ⟨h.1, h.2.2.1, h.2.2.2⟩, lIx _ _ _ _ _ _ _ _ ⟨h.2.1, h.2.2.2⟩]
theorem lS1 (σ : St) (k v u i : Nat) : lotS σ k v u 1 i 2 = if i = 1 then σ 1 1 2 + 1 else σ 1 i 2 := by
  unfold lotS
  rw [as1, lIx _ _ _ _ _ _ _ _ (by decide), lIx _ _ _ _ _ _ _ _ (by decide)]
theorem lS9 (σ : St) (k v u i : Nat) : lotS σ k v u 9 i 0 = if i = 1 then capA (σ 1 1 2) (σ 9 1 0) else σ 9 i 0 := by
  unfold lotS
  rw [as9, lIx _ _ _ _ _ _ _ _ (by decide), lIx _ _ _ _ _ _ _ _ (by decide), lIx _ _ _ _ _ _ _ _ (by decide)]
theorem lS5 (σ : St) (k v u p j : Nat) : lotS σ k v u 5 p j = if p = σ 1 1 2 then (if j = 0 then σ 1 1 2 else if j = 1 then k else if j = 2 then v else if j = 3 then u else if j = 4 then 0 else σ 5 p j) else σ 5 p j := by
  unfold lotS
  rw [asx _ _ _ _ _ (by decide), lI5]
theorem oIx (σ : St) (n o a b d : Nat) (h : a ≠ 2 ∧ a ≠ 11 ∧ a ≠ 12) : orderI σ n o a b d = σ a b d := by simp [orderI, up, h.1, h.2.1, h.2.2]
theorem oI2 (σ : St) (n o p j : Nat) : orderI σ n o 2 p j = if p = n then (if j = 0 then n else if j = 1 then o else if j = 4 then NN else if j = 3 ∨ j = 5 ∨ j = 6 ∨ j = 7 ∨ j = 8 then 0 else σ 2 p j) else σ 2 p j := by
  by_cases e : p = n
  · subst e
    rw [if_pos rfl]
    by_cases j0 : j = 0
    · subst j0; simp [orderI, up]
    · by_cases j1 : j = 1
      · subst j1; simp [orderI, up]
      · by_cases j4 : j = 4
        · subst j4; simp [orderI, up]
        · by_cases jx : j = 3 ∨ j = 5 ∨ j = 6 ∨ j = 7 ∨ j = 8
          · rcases jx with rfl | rfl | rfl | rfl | rfl <;> simp [orderI, up]
          · have h3 : j ≠ 3 := fun z => jx (by omega)
            have h5 : j ≠ 5 := fun z => jx (by omega)
            have h6 : j ≠ 6 := fun z => jx (by omega)
            have h7 : j ≠ 7 := fun z => jx (by omega)
            have h8 : j ≠ 8 := fun z => jx (by omega)
            simp [orderI, up, j0, j1, j4, h3, h5, h6, h7, h8]
  · simp [orderI, up, e]
theorem oI11 (σ : St) (n o t j : Nat) : orderI σ n o 11 t j = if (t = 2 ∨ t = 24) ∧ j = n then 1 else σ 11 t j := by
  by_cases e : j = n
  · by_cases e2 : t = 2
    · simp [orderI, up, e, e2]
    · by_cases e3 : t = 24
      · simp [orderI, up, e, e3]
      · simp [orderI, up, e2, e3]
  · simp [orderI, up, e]
theorem oI12 (σ : St) (n o t j : Nat) : orderI σ n o 12 t j = if t = 2 ∧ j = n then 1 else σ 12 t j := by
  by_cases e : t = 2 ∧ j = n
  · simp [orderI, up, e.1, e.2]
  · simp [orderI, up, e]
theorem oSx (σ : St) (o a b d : Nat) (h : a ≠ 1 ∧ a ≠ 2 ∧ a ≠ 9 ∧ a ≠ 11 ∧ a ≠ 12) : orderS σ o a b d = σ a b d := by
  unfold orderS
  rw [asx _ _ _ _ _ ⟨h.1, h.2.2.1, h.2.2.2.1⟩, oIx _ _ _ _ _ _ ⟨h.2.1, h.2.2.2.1, h.2.2.2.2⟩]
theorem oS1 (σ : St) (o i : Nat) : orderS σ o 1 i 2 = if i = 2 then σ 1 2 2 + 1 else σ 1 i 2 := by
  unfold orderS
  rw [as1, oIx _ _ _ _ _ _ (by decide), oIx _ _ _ _ _ _ (by decide)]
theorem oS9 (σ : St) (o i : Nat) : orderS σ o 9 i 0 = if i = 2 then capA (σ 1 2 2) (σ 9 2 0) else σ 9 i 0 := by
  unfold orderS
  rw [as9, oIx _ _ _ _ _ _ (by decide), oIx _ _ _ _ _ _ (by decide), oIx _ _ _ _ _ _ (by decide)]
theorem oS2 (σ : St) (o p j : Nat) : orderS σ o 2 p j = if p = σ 1 2 2 then (if j = 0 then σ 1 2 2 else if j = 1 then o else if j = 4 then NN else if j = 3 ∨ j = 5 ∨ j = 6 ∨ j = 7 ∨ j = 8 then 0 else σ 2 p j) else σ 2 p j := by
  unfold orderS
  rw [asx _ _ _ _ _ (by decide), oI2]
theorem iVx (σ τ : St) (c n k a b d : Nat) (h : a ≠ 19) : imgV σ c n k τ a b d = τ a b d := by
  induction k with
  | zero => rfl
  | succ k ih =>
    show up (imgV σ c n k τ) 19 n k (sv σ c k) a b d = _
    rw [up_ne (fun z => h z.1), ih]
theorem iV19 (σ τ : St) (c n k p j : Nat) : imgV σ c n k τ 19 p j = if p = n ∧ j < k then sv σ c j else τ 19 p j := by
  induction k with
  | zero => rw [if_neg (fun z => absurd z.2 (Nat.not_lt_zero j))]; rfl
  | succ k ih =>
    show up (imgV σ c n k τ) 19 n k (sv σ c k) 19 p j = _
    by_cases e : p = n ∧ j = k
    · obtain ⟨rfl, rfl⟩ := e
      rw [up_eq, if_pos ⟨rfl, by omega⟩]
    · rw [up_ne (fun z => e z.2), ih]
      by_cases q : p = n ∧ j < k
      · rw [if_pos q, if_pos ⟨q.1, by omega⟩]
      · rw [if_neg q, if_neg (fun z => q ⟨z.1, by have := z.2; have : j ≠ k := fun y => e ⟨z.1, y⟩; omega⟩)]
theorem iAx (σ : St) (n a b d : Nat) (h : a ≠ 3 ∧ a ≠ 11 ∧ a ≠ 12) : imgA σ n a b d = σ a b d := by simp [imgA, up, h.1, h.2.1, h.2.2]
theorem iA3 (σ : St) (n p j : Nat) : imgA σ n 3 p j = if p = n ∧ j = 0 then n else if p = n ∧ j = 2 then 0 else σ 3 p j := by
  by_cases e : p = n
  · by_cases j0 : j = 0
    · simp [imgA, up, e, j0]
    · by_cases j2 : j = 2
      · simp [imgA, up, e, j2]
      · simp [imgA, up, j0, j2]
  · simp [imgA, up, e]
theorem iA11 (σ : St) (n t j : Nat) : imgA σ n 11 t j = if (t = 3 ∨ t = 19) ∧ j = n then 1 else σ 11 t j := by
  by_cases e : j = n
  · by_cases e2 : t = 3
    · simp [imgA, up, e, e2]
    · by_cases e3 : t = 19
      · simp [imgA, up, e, e3]
      · simp [imgA, up, e2, e3]
  · simp [imgA, up, e]
theorem iA12 (σ : St) (n t j : Nat) : imgA σ n 12 t j = if t = 3 ∧ j = n then 1 else σ 12 t j := by
  by_cases e : t = 3 ∧ j = n
  · simp [imgA, up, e.1, e.2]
  · simp [imgA, up, e]
theorem iSx (σ : St) (c a b d : Nat) (h : a ≠ 1 ∧ a ≠ 3 ∧ a ≠ 9 ∧ a ≠ 11 ∧ a ≠ 12 ∧ a ≠ 19) : imgS σ c a b d = σ a b d := by
  unfold imgS
  rw [asx _ _ _ _ _ ⟨h.1, h.2.2.1, h.2.2.2.1⟩, iVx _ _ _ _ _ _ _ _ h.2.2.2.2.2, iAx _ _ _ _ _ ⟨h.2.1, h.2.2.2.1, h.2.2.2.2.1⟩]
theorem iM (σ : St) (c n k a b d : Nat) (h : a ≠ 3 ∧ a ≠ 11 ∧ a ≠ 12 ∧ a ≠ 19) : imgV σ c n k (imgA σ n) a b d = σ a b d := by
  rw [iVx _ _ _ _ _ _ _ _ h.2.2.2, iAx _ _ _ _ _ ⟨h.1, h.2.1, h.2.2.1⟩]
theorem iS1 (σ : St) (c i : Nat) : imgS σ c 1 i 2 = if i = 3 then σ 1 3 2 + 1 else σ 1 i 2 := by
  unfold imgS
  rw [as1, iM _ _ _ _ _ _ _ (by decide), iM _ _ _ _ _ _ _ (by decide)]
theorem iS9 (σ : St) (c i : Nat) : imgS σ c 9 i 0 = if i = 3 then capA (σ 1 3 2) (σ 9 3 0) else σ 9 i 0 := by
  unfold imgS
  rw [as9, iM _ _ _ _ _ _ _ (by decide), iM _ _ _ _ _ _ _ (by decide), iM _ _ _ _ _ _ _ (by decide)]
theorem iS3 (σ : St) (c p j : Nat) : imgS σ c 3 p j = if p = σ 1 3 2 ∧ j = 0 then σ 1 3 2 else if p = σ 1 3 2 ∧ j = 2 then 0 else σ 3 p j := by
  unfold imgS
  rw [asx _ _ _ _ _ (by decide), iVx _ _ _ _ _ _ _ _ (by decide), iA3]
theorem iS19 (σ : St) (c p j : Nat) : imgS σ c 19 p j = if p = σ 1 3 2 ∧ j < 10 then sv σ c j else σ 19 p j := by
  unfold imgS
  rw [asx _ _ _ _ _ (by decide), iV19, iAx _ _ _ _ _ (by decide)]
/-! what holds behind them -/
theorem WL_cong {σ τ : St} (h : WL σ) (e2 : ∀ b k, k = 3 ∨ k = 4 ∨ k = 9 → τ 2 b k = σ 2 b k) (e10 : ∀ k, τ 10 0 k = σ 10 0 k) (e25 : ∀ k, τ 25 0 k = σ 25 0 k) (e26 : ∀ k, τ 26 4 k = σ 26 4 k) (e27 : ∀ k, τ 27 0 k = σ 27 0 k) (s2 : τ 1 2 2 = σ 1 2 2) (s4 : τ 1 4 2 = σ 1 4 2) : WL τ := by
  unfold WL WL1 WL5 WL6 at *
  simp only [fun b => e2 b 3 (Or.inl rfl), fun b => e2 b 4 (Or.inr (Or.inl rfl)), fun b => e2 b 9 (Or.inr (Or.inr rfl)), e10, e25, e26, e27, s2, s4]
  exact h
theorem sv_lt {σ : St} (v : WV σ) {c k : Nat} : sv σ c k < 100 := by
  unfold sv
  split
  · omega
  · exact (v.2.1 _).2.1
theorem WW_lot {σ : St} (ww : WW σ) {k v u : Nat} (hn : σ 1 1 2 < 40) (hk : k < 10) (hv : v < 100) (hu : u ≤ 50) : WW (lotS σ k v u) := by
  obtain ⟨⟨a, b, g, d, e⟩, wl, wp⟩ := ww
  obtain ⟨a0, a1, a2, a3, a4⟩ := WA_01 a
  have xV : ∀ t i, t ≠ 5 → (V (lotI σ (σ 1 1 2) k v u) t i ↔ V σ t i) := fun t i h => by unfold V; rw [lI11, if_neg (fun z => h z.1)]
  have x12 : ∀ t i, lotI σ (σ 1 1 2) k v u 12 t i = σ 12 t i := fun t i => lIx _ _ _ _ _ _ _ _ (by decide)
  have x1 : ∀ i, lotI σ (σ 1 1 2) k v u 1 i 2 = σ 1 i 2 := fun i => lIx _ _ _ _ _ _ _ _ (by decide)
  have x9 : ∀ i, lotI σ (σ 1 1 2) k v u 9 i 0 = σ 9 i 0 := fun i => lIx _ _ _ _ _ _ _ _ (by decide)
  have b0 : WA0 (lotI σ (σ 1 1 2) k v u) := WA0_cong a0 (fun t i _ _ h _ _ _ => xV t i h) (fun t i _ _ => x12 t i) x9 x1
  have b1 : WA1 (lotI σ (σ 1 1 2) k v u) (σ 1 1 2 + 1) (σ 1 2 2) (σ 1 3 2) (σ 1 5 2) := by
    refine ⟨fun i => ?_, fun i => ?_, fun i => ?_, fun i => ?_⟩
    · unfold V
      rw [lI11]
      by_cases q : i = σ 1 1 2
      · rw [if_pos ⟨rfl, q⟩]; omega
      · rw [if_neg (fun z => q z.2)]
        have := a1 i
        unfold V at this
        omega
    · rw [xV _ _ (by decide), xV _ _ (by decide), x12]; exact a2 i
    · rw [xV _ _ (by decide), xV _ _ (by decide), x12]; exact a3 i
    · rw [xV _ _ (by decide)]; exact a4 i
  obtain ⟨k1, k2, k3⟩ := capA_le (d.1 1 (by decide) (by decide)) hn
  have sz := (a.2.2.2.2.2.2.2.2 1 (by decide) (by decide)).2.1
  have z : ∀ t, t ≠ 1 → t ≠ 5 → t ≠ 9 → t ≠ 11 → ∀ i j, lotS σ k v u t i j = σ t i j := fun t h1 h2 h3 h4 i j => lSx _ _ _ _ _ _ _ ⟨h1, h2, h3, h4⟩
  have s1 : lotS σ k v u 1 1 2 = σ 1 1 2 + 1 := by rw [lS1, if_pos rfl]
  have s2 : lotS σ k v u 1 2 2 = σ 1 2 2 := by rw [lS1, if_neg (by decide)]
  have s3 : lotS σ k v u 1 3 2 = σ 1 3 2 := by rw [lS1, if_neg (by decide)]
  have s4 : lotS σ k v u 1 4 2 = σ 1 4 2 := by rw [lS1, if_neg (by decide)]
  have s5 : lotS σ k v u 1 5 2 = σ 1 5 2 := by rw [lS1, if_neg (by decide)]
  have z2 := z 2 (by decide) (by decide) (by decide) (by decide)
  have z3 := z 3 (by decide) (by decide) (by decide) (by decide)
  have z4 := z 4 (by decide) (by decide) (by decide) (by decide)
  have z6 := z 6 (by decide) (by decide) (by decide) (by decide)
  have z10 := z 10 (by decide) (by decide) (by decide) (by decide)
  have z19 := z 19 (by decide) (by decide) (by decide) (by decide)
  have z24 := z 24 (by decide) (by decide) (by decide) (by decide)
  have z25 := z 25 (by decide) (by decide) (by decide) (by decide)
  have z26 := z 26 (by decide) (by decide) (by decide) (by decide)
  have z27 := z 27 (by decide) (by decide) (by decide) (by decide)
  have z28 := z 28 (by decide) (by decide) (by decide) (by decide)
  refine ⟨⟨WA_of (WA0_add b0 (by rw [x1, x9]; exact k3 sz) (by rw [x1, x9]; omega)) (WA1_add b1) s1 s2 s3 s5, ?_, ?_, ⟨fun i h1 h4 => ?_, ?_, ?_⟩, ?_⟩, WL_cong wl (fun _ _ _ => z2 _ _) (fun _ => z10 _ _) (fun _ => z25 _ _) (fun _ => z26 _ _) (fun _ => z27 _ _) s2 s4, WPk_cong wp z6 z24 s2 s5⟩
  · obtain ⟨w1, w2, w3, w4, ⟨v1, v2, v3, v4⟩, w6, w7, w8, w9, w10, w11⟩ := b
    unfold WV
    simp only [z2, z3, z4, z19, z24, z25, s1, s2, s3, s4]
    refine ⟨w1, fun l => ?_, w3, w4, ⟨by omega, v2, v3, v4⟩, fun l hl => ?_, w7, w8, fun c k => by have := w9 c k; omega, w10, w11⟩
    · rw [lS5, lS5, lS5, lS5]
      by_cases q : l = σ 1 1 2
      · rw [if_pos q, if_pos q, if_pos q, if_pos q]
        exact ⟨hk, hv, hu, Nat.zero_le _⟩
      · rw [if_neg q, if_neg q, if_neg q, if_neg q]
        exact w2 l
    · rw [lS5]
      by_cases q : l = σ 1 1 2
      · rw [if_pos q, q]; rfl
      · rw [if_neg q]; exact w6 l (by omega)
  · intro n c hc
    unfold sgnd
    rw [z28, z3]
    exact g n c hc
  · rw [lS9]
    by_cases q : i = 1
    · rw [if_pos q]; exact k2
    · rw [if_neg q]; exact d.1 i h1 h4
  · rw [lS9, if_neg (by decide)]; exact d.2.1
  · rw [lS9, if_neg (by decide), s5]; exact d.2.2
  · obtain ⟨e1, e2, e3, e4⟩ := e
    unfold WZ
    simp only [z2, z3, z6, z19, z24, z28, s1, s2, s3, s5]
    refine ⟨fun l j hl => ?_, e2, e3, e4⟩
    rw [lS5, if_neg (by omega)]
    exact e1 l j (by omega)
theorem WW_order {σ : St} (ww : WW σ) {o : Nat} (hn : σ 1 2 2 < 30) : WW (orderS σ o) := by
  obtain ⟨⟨a, b, g, d, e⟩, ⟨h1, h2, h3, h4, h5, h6⟩, wp⟩ := ww
  obtain ⟨a0, a1, a2, a3, a4⟩ := WA_01 a
  have xV : ∀ t i, t ≠ 2 → t ≠ 24 → (V (orderI σ (σ 1 2 2) o) t i ↔ V σ t i) := fun t i p q => by unfold V; rw [oI11, if_neg (fun z => z.1.elim p q)]
  have x12 : ∀ t i, t ≠ 2 → orderI σ (σ 1 2 2) o 12 t i = σ 12 t i := fun t i p => by rw [oI12, if_neg (fun z => p z.1)]
  have x1 : ∀ i, orderI σ (σ 1 2 2) o 1 i 2 = σ 1 i 2 := fun i => oIx _ _ _ _ _ _ (by decide)
  have x9 : ∀ i, orderI σ (σ 1 2 2) o 9 i 0 = σ 9 i 0 := fun i => oIx _ _ _ _ _ _ (by decide)
  have b0 : WA0 (orderI σ (σ 1 2 2) o) := WA0_cong a0 (fun t i p _ _ _ _ q => xV t i p q) (fun t i p _ => x12 t i p) x9 x1
  have b1 : WA1 (orderI σ (σ 1 2 2) o) (σ 1 1 2) (σ 1 2 2 + 1) (σ 1 3 2) (σ 1 5 2) := by
    refine ⟨fun i => ?_, fun i => ?_, fun i => ?_, fun i => ?_⟩
    · rw [xV _ _ (by decide) (by decide)]; exact a1 i
    · unfold V
      rw [oI11, oI11, oI12]
      by_cases q : i = σ 1 2 2
      · rw [if_pos ⟨Or.inl rfl, q⟩, if_pos ⟨Or.inr rfl, q⟩, if_pos ⟨rfl, q⟩]; omega
      · rw [if_neg (fun z => q z.2), if_neg (fun z => q z.2), if_neg (fun z => q z.2)]
        obtain ⟨y1, y2, y3⟩ := a2 i
        unfold V at y1 y2
        omega
    · rw [xV _ _ (by decide) (by decide), xV _ _ (by decide) (by decide), x12 _ _ (by decide)]; exact a3 i
    · rw [xV _ _ (by decide) (by decide)]; exact a4 i
  obtain ⟨k1, k2, k3⟩ := capA_le (d.1 2 (by decide) (by decide)) (show σ 1 2 2 < 40 by omega)
  have sz := (a.2.2.2.2.2.2.2.2 2 (by decide) (by decide)).2.1
  have z : ∀ t, t ≠ 1 → t ≠ 2 → t ≠ 9 → t ≠ 11 → t ≠ 12 → ∀ i j, orderS σ o t i j = σ t i j := fun t p1 p2 p3 p4 p5 i j => oSx _ _ _ _ _ ⟨p1, p2, p3, p4, p5⟩
  have s1 : orderS σ o 1 1 2 = σ 1 1 2 := by rw [oS1, if_neg (by decide)]
  have s2 : orderS σ o 1 2 2 = σ 1 2 2 + 1 := by rw [oS1, if_pos rfl]
  have s3 : orderS σ o 1 3 2 = σ 1 3 2 := by rw [oS1, if_neg (by decide)]
  have s4 : orderS σ o 1 4 2 = σ 1 4 2 := by rw [oS1, if_neg (by decide)]
  have s5 : orderS σ o 1 5 2 = σ 1 5 2 := by rw [oS1, if_neg (by decide)]
  have z3 := z 3 (by decide) (by decide) (by decide) (by decide) (by decide)
  have z4 := z 4 (by decide) (by decide) (by decide) (by decide) (by decide)
  have z5 := z 5 (by decide) (by decide) (by decide) (by decide) (by decide)
  have z6 := z 6 (by decide) (by decide) (by decide) (by decide) (by decide)
  have z10 := z 10 (by decide) (by decide) (by decide) (by decide) (by decide)
  have z19 := z 19 (by decide) (by decide) (by decide) (by decide) (by decide)
  have z24 := z 24 (by decide) (by decide) (by decide) (by decide) (by decide)
  have z25 := z 25 (by decide) (by decide) (by decide) (by decide) (by decide)
  have z26 := z 26 (by decide) (by decide) (by decide) (by decide) (by decide)
  have z27 := z 27 (by decide) (by decide) (by decide) (by decide) (by decide)
  have z28 := z 28 (by decide) (by decide) (by decide) (by decide) (by decide)
  have old : ∀ c j, c < σ 1 2 2 → orderS σ o 2 c j = σ 2 c j := fun c j hc => by rw [oS2, if_neg (by omega)]
  have nw3 : orderS σ o 2 (σ 1 2 2) 3 = 0 := by rw [oS2, if_pos rfl]; rfl
  have nw4 : orderS σ o 2 (σ 1 2 2) 4 = NN := by rw [oS2, if_pos rfl]; rfl
  refine ⟨⟨WA_of (WA0_add b0 (by rw [x1, x9]; exact k3 sz) (by rw [x1, x9]; omega)) (WA1_add b1) s1 s2 s3 s5, ?_, ?_, ⟨fun i p1 p4 => ?_, ?_, ?_⟩, ?_⟩, ⟨fun s hs => ?_, fun j hj => ?_, fun j j' hj hj' => ?_, ?_, ⟨?_, fun c hc => ?_⟩, fun c hc => ?_⟩, fun p => ?_, fun c k hc hk => ?_, fun p hp => ?_⟩
  · obtain ⟨w1, w2, w3, w4, ⟨v1, v2, v3, v4⟩, w6, w7, w8, w9, w10, w11⟩ := b
    unfold WV
    simp only [z3, z4, z5, z19, z24, z25, s1, s2, s3, s4]
    refine ⟨w1, w2, fun c => ?_, w4, ⟨v1, by omega, v3, v4⟩, w6, fun c hc => ?_, w8, w9, fun c => ?_, fun s => by have := w11 s; omega⟩
    · rw [oS2, oS2, oS2, oS2, oS2, oS2]
      by_cases q : c = σ 1 2 2
      · rw [if_pos q, if_pos q, if_pos q, if_pos q, if_pos q, if_pos q]
        have e9 : σ 2 c 9 = 0 := (e.2.1 c 9 (by omega)).1
        refine ⟨by simp, by simp, by simp, by simp, Or.inr rfl, ?_⟩
        show σ 2 c 9 < 8
        omega
      · rw [if_neg q, if_neg q, if_neg q, if_neg q, if_neg q, if_neg q]
        exact w3 c
    · by_cases q : c = σ 1 2 2
      · rw [oS2, if_pos q, q]; rfl
      · rw [old c 0 (by omega)]; exact w7 c (by omega)
    · rw [oS2]
      by_cases q : c = σ 1 2 2
      · rw [if_pos q]; exact Nat.zero_le _
      · rw [if_neg q]; exact w10 c
  · intro n c hc
    unfold sgnd
    rw [z28, z3]
    exact g n c hc
  · rw [oS9]
    by_cases q : i = 2
    · rw [if_pos q]; exact k2
    · rw [if_neg q]; exact d.1 i p1 p4
  · rw [oS9, if_neg (by decide)]; exact d.2.1
  · rw [oS9, if_neg (by decide), s5]; exact d.2.2
  · obtain ⟨e1, e2, e3, e4⟩ := e
    unfold WZ
    simp only [z3, z5, z6, z19, z24, z28, s1, s2, s3, s5]
    refine ⟨e1, fun c j hc => ?_, e3, e4⟩
    rw [oS2, if_neg (by omega)]
    exact e2 c j (by omega)
  · rw [z25] at hs ⊢
    obtain ⟨y1, y2, y3, y4⟩ := h1 s hs
    rw [s2, old _ _ (by omega), old _ _ (by omega)]
    exact ⟨y1, by omega, y3, y4⟩
  · rw [s4] at hj
    obtain ⟨y1, y2, y3⟩ := h2 j hj
    rw [z26, z27, s2, old _ _ y2]
    exact ⟨y1, by omega, y3⟩
  · rw [s4] at hj hj'
    rw [z27, z27]
    exact h3 j j' hj hj'
  · rw [z10, s4]; exact h4
  · rw [z10, s2]; have := h5.1; omega
  · rw [s2] at hc
    rw [z10]
    by_cases q : c = σ 1 2 2
    · rw [q, nw3]
      have := h5.1
      exact ⟨fun _ => this, fun _ => rfl⟩
    · rw [old c 3 (by omega)]; exact h5.2 c (by omega)
  · rw [s2] at hc
    by_cases q : c = σ 1 2 2
    · rw [q, nw3, nw4]
      exact ⟨fun z => by omega, fun _ => rfl⟩
    · rw [old c 3 (by omega), old c 4 (by omega), old c 9 (by omega)]; exact h6 c (by omega)
  · rw [z6, z6]; exact wp.1 p
  · rw [s2] at hc
    rw [s5, z24, lastP_cong (σ := σ) _ (fun p _ j => z6 p j)]
    by_cases q : c = σ 1 2 2
    · have e24 : σ 24 c k = 0 := (e.2.1 c k (by omega)).2
      rw [if_pos e24]
      have none : ∀ n, n ≤ σ 1 5 2 → lastP σ c k n = NN := by
        intro n
        induction n with
        | zero => exact fun _ => rfl
        | succ n ih =>
          intro hn2
          have := wp.2.2 n (by omega)
          show (if σ 6 n 0 = c ∧ σ 6 n 1 = k then σ 6 n 2 else lastP σ c k n) = NN
          rw [if_neg (fun z => by omega), ih (by omega)]
      exact none _ (Nat.le_refl _)
    · exact wp.2.1 c k (by omega) hk
  · rw [s5] at hp
    rw [z6, s2]
    have := wp.2.2 p hp
    omega
/-- images are apart -/
def WD (σ : St) : Prop := ∀ n m, n < σ 1 3 2 → m < σ 1 3 2 → (∀ k, k < 10 → σ 19 n k = σ 19 m k) → n = m
theorem WD_cong {σ τ : St} (w : WD σ) (e19 : ∀ n k, τ 19 n k = σ 19 n k) (e3 : τ 1 3 2 = σ 1 3 2) : WD τ := by
  unfold WD at *
  simp only [e19, e3]
  exact w
theorem WW_img {σ : St} (ww : WW σ) {c : Nat} (hn : σ 1 3 2 < 40) : WW (imgS σ c) := by
  obtain ⟨⟨a, b, g, d, e⟩, wl, wp⟩ := ww
  obtain ⟨a0, a1, a2, a3, a4⟩ := WA_01 a
  have b' := b
  have y11 : ∀ t i, imgV σ c (σ 1 3 2) 10 (imgA σ (σ 1 3 2)) 11 t i = if (t = 3 ∨ t = 19) ∧ i = σ 1 3 2 then 1 else σ 11 t i := fun t i => by rw [iVx _ _ _ _ _ _ _ _ (by decide), iA11]
  have y12 : ∀ t i, imgV σ c (σ 1 3 2) 10 (imgA σ (σ 1 3 2)) 12 t i = if t = 3 ∧ i = σ 1 3 2 then 1 else σ 12 t i := fun t i => by rw [iVx _ _ _ _ _ _ _ _ (by decide), iA12]
  have x1 : ∀ i, imgV σ c (σ 1 3 2) 10 (imgA σ (σ 1 3 2)) 1 i 2 = σ 1 i 2 := fun i => iM _ _ _ _ _ _ _ (by decide)
  have x9 : ∀ i, imgV σ c (σ 1 3 2) 10 (imgA σ (σ 1 3 2)) 9 i 0 = σ 9 i 0 := fun i => iM _ _ _ _ _ _ _ (by decide)
  have xV : ∀ t i, t ≠ 3 → t ≠ 19 → (V (imgV σ c (σ 1 3 2) 10 (imgA σ (σ 1 3 2))) t i ↔ V σ t i) := fun t i p q => by unfold V; rw [y11, if_neg (fun z => z.1.elim p q)]
  have x12 : ∀ t i, t ≠ 3 → imgV σ c (σ 1 3 2) 10 (imgA σ (σ 1 3 2)) 12 t i = σ 12 t i := fun t i p => by rw [y12, if_neg (fun z => p z.1)]
  have b0 : WA0 (imgV σ c (σ 1 3 2) 10 (imgA σ (σ 1 3 2))) := WA0_cong a0 (fun t i _ p _ _ q _ => xV t i p q) (fun t i _ p => x12 t i p) x9 x1
  have b1 : WA1 (imgV σ c (σ 1 3 2) 10 (imgA σ (σ 1 3 2))) (σ 1 1 2) (σ 1 2 2) (σ 1 3 2 + 1) (σ 1 5 2) := by
    refine ⟨fun i => ?_, fun i => ?_, fun i => ?_, fun i => ?_⟩
    · rw [xV _ _ (by decide) (by decide)]; exact a1 i
    · rw [xV _ _ (by decide) (by decide), xV _ _ (by decide) (by decide), x12 _ _ (by decide)]; exact a2 i
    · unfold V
      rw [y11, y11, y12]
      by_cases q : i = σ 1 3 2
      · rw [if_pos ⟨Or.inl rfl, q⟩, if_pos ⟨Or.inr rfl, q⟩, if_pos ⟨rfl, q⟩]; omega
      · rw [if_neg (fun z => q z.2), if_neg (fun z => q z.2), if_neg (fun z => q z.2)]
        obtain ⟨y1, y2, y3⟩ := a3 i
        unfold V at y1 y2
        omega
    · rw [xV _ _ (by decide) (by decide)]; exact a4 i
  obtain ⟨k1, k2, k3⟩ := capA_le (d.1 3 (by decide) (by decide)) hn
  have sz := (a.2.2.2.2.2.2.2.2 3 (by decide) (by decide)).2.1
  have z : ∀ t, t ≠ 1 → t ≠ 3 → t ≠ 9 → t ≠ 11 → t ≠ 12 → t ≠ 19 → ∀ i j, imgS σ c t i j = σ t i j := fun t p1 p2 p3 p4 p5 p6 i j => iSx _ _ _ _ _ ⟨p1, p2, p3, p4, p5, p6⟩
  have s1 : imgS σ c 1 1 2 = σ 1 1 2 := by rw [iS1, if_neg (by decide)]
  have s2 : imgS σ c 1 2 2 = σ 1 2 2 := by rw [iS1, if_neg (by decide)]
  have s3 : imgS σ c 1 3 2 = σ 1 3 2 + 1 := by rw [iS1, if_pos rfl]
  have s4 : imgS σ c 1 4 2 = σ 1 4 2 := by rw [iS1, if_neg (by decide)]
  have s5 : imgS σ c 1 5 2 = σ 1 5 2 := by rw [iS1, if_neg (by decide)]
  have z2 := z 2 (by decide) (by decide) (by decide) (by decide) (by decide) (by decide)
  have z4 := z 4 (by decide) (by decide) (by decide) (by decide) (by decide) (by decide)
  have z5 := z 5 (by decide) (by decide) (by decide) (by decide) (by decide) (by decide)
  have z6 := z 6 (by decide) (by decide) (by decide) (by decide) (by decide) (by decide)
  have z10 := z 10 (by decide) (by decide) (by decide) (by decide) (by decide) (by decide)
  have z24 := z 24 (by decide) (by decide) (by decide) (by decide) (by decide) (by decide)
  have z25 := z 25 (by decide) (by decide) (by decide) (by decide) (by decide) (by decide)
  have z26 := z 26 (by decide) (by decide) (by decide) (by decide) (by decide) (by decide)
  have z27 := z 27 (by decide) (by decide) (by decide) (by decide) (by decide) (by decide)
  have z28 := z 28 (by decide) (by decide) (by decide) (by decide) (by decide) (by decide)
  have z32 : ∀ n, imgS σ c 3 n 2 = σ 3 n 2 := by
    intro n
    rw [iS3, if_neg (fun z => by cases z.2)]
    by_cases q : n = σ 1 3 2
    · rw [if_pos ⟨q, rfl⟩]; exact ((e.2.2.1 n 2 (by omega)).1).symm
    · rw [if_neg (fun z => q z.1)]
  refine ⟨⟨WA_of (WA0_add b0 (by rw [x1, x9]; exact k3 sz) (by rw [x1, x9]; omega)) (WA1_add b1) s1 s2 s3 s5, ?_, ?_, ⟨fun i p1 p4 => ?_, ?_, ?_⟩, ?_⟩, WL_cong wl (fun _ _ _ => z2 _ _) (fun _ => z10 _ _) (fun _ => z25 _ _) (fun _ => z26 _ _) (fun _ => z27 _ _) s2 s4, WPk_cong wp z6 z24 s2 s5⟩
  · obtain ⟨w1, w2, w3, w4, ⟨v1, v2, v3, v4⟩, w6, w7, w8, w9, w10, w11⟩ := b
    unfold WV
    simp only [z2, z4, z5, z24, z25, s1, s2, s3, s4]
    refine ⟨w1, w2, w3, fun n k => ?_, ⟨v1, v2, by omega, v4⟩, w6, w7, fun n hn2 => ?_, w9, fun c => by have := w10 c; omega, w11⟩
    · rw [iS19]
      by_cases q : n = σ 1 3 2 ∧ k < 10
      · rw [if_pos q]; exact sv_lt b'
      · rw [if_neg q]; exact w4 n k
    · rw [iS3]
      by_cases q : n = σ 1 3 2
      · rw [if_pos ⟨q, rfl⟩, q]
      · rw [if_neg (fun z => q z.1), if_neg (fun z => q z.1)]; exact w8 n (by omega)
  · intro n c' hc
    unfold sgnd
    rw [z28, z32]
    exact g n c' hc
  · rw [iS9]
    by_cases q : i = 3
    · rw [if_pos q]; exact k2
    · rw [if_neg q]; exact d.1 i p1 p4
  · rw [iS9, if_neg (by decide)]; exact d.2.1
  · rw [iS9, if_neg (by decide), s5]; exact d.2.2
  · obtain ⟨e1, e2, e3, e4⟩ := e
    unfold WZ
    simp only [z2, z5, z6, z24, z28, s1, s2, s3, s5]
    refine ⟨e1, e2, fun n j hn2 => ?_, e4⟩
    rw [iS3, if_neg (fun z => by omega), if_neg (fun z => by omega), iS19, if_neg (fun z => by omega)]
    exact e3 n j (by omega)
theorem WD_img {σ : St} (w : WD σ) {c : Nat} (h : ∀ n, n < σ 1 3 2 → built σ n c = false) : WD (imgS σ c) := by
  have s3 : imgS σ c 1 3 2 = σ 1 3 2 + 1 := by rw [iS1, if_pos rfl]
  have nw : ∀ k, k < 10 → imgS σ c 19 (σ 1 3 2) k = sv σ c k := fun k hk => by rw [iS19, if_pos ⟨rfl, hk⟩]
  have old : ∀ n k, n < σ 1 3 2 → imgS σ c 19 n k = σ 19 n k := fun n k hn => by rw [iS19, if_neg (fun z => by omega)]
  have no : ∀ n, n < σ 1 3 2 → ¬ ∀ k, k < 10 → σ 19 n k = sv σ c k := by
    intro n hn q
    have := h n hn
    have y : true = built σ n c := all10_t (fun k hk => decide_eq_true (q k hk))
    rw [← y] at this
    cases this
  intro n m hn hm e
  rw [s3] at hn hm
  by_cases q : n = σ 1 3 2
  · by_cases q2 : m = σ 1 3 2
    · omega
    · exact absurd (fun k hk => by have := e k hk; rw [q, nw k hk, old m k (by omega)] at this; exact this.symm) (no m (by omega))
  · by_cases q2 : m = σ 1 3 2
    · exact absurd (fun k hk => by have := e k hk; rw [q2, nw k hk, old n k (by omega)] at this; exact this) (no n (by omega))
    · exact w n m (by omega) (by omega) (fun k hk => by have := e k hk; rw [old n k (by omega), old m k (by omega)] at this; exact this)
