/-! picks -/
theorem WA0_cong {σ σ' : St} (w : WA0 σ) (hV : ∀ t i, t ≠ 2 → t ≠ 3 → t ≠ 5 → t ≠ 6 → t ≠ 19 → t ≠ 24 → (V σ' t i ↔ V σ t i)) (e12 : ∀ t i, t ≠ 2 → t ≠ 3 → σ' 12 t i = σ 12 t i) (e9 : ∀ i, σ' 9 i 0 = σ 9 i 0) (e1 : ∀ i, σ' 1 i 2 = σ 1 i 2) : WA0 σ' := by
  obtain ⟨⟨a1, a2, a3, a4, a5, a6⟩, b, c, d, e⟩ := w
  have v : ∀ t i, t ≠ 2 → t ≠ 3 → t ≠ 5 → t ≠ 6 → t ≠ 19 → t ≠ 24 → V σ t i → V σ' t i := fun t i h1 h2 h3 h4 h5 h6 => (hV t i h1 h2 h3 h4 h5 h6).mpr
  have mm : ∀ {t}, isMA t = true → t ≠ 2 ∧ t ≠ 3 ∧ t ≠ 5 ∧ t ≠ 6 ∧ t ≠ 19 ∧ t ≠ 24 := fun m => ⟨fun e => (by rw [e] at m; cases m), fun e => (by rw [e] at m; cases m), fun e => (by rw [e] at m; cases m), fun e => (by rw [e] at m; cases m), fun e => (by rw [e] at m; cases m), fun e => (by rw [e] at m; cases m)⟩
  refine ⟨⟨v _ _ (by decide) (by decide) (by decide) (by decide) (by decide) (by decide) a1, v _ _ (by decide) (by decide) (by decide) (by decide) (by decide) (by decide) a2, v _ _ (by decide) (by decide) (by decide) (by decide) (by decide) (by decide) a3, v _ _ (by decide) (by decide) (by decide) (by decide) (by decide) (by decide) a4, by rw [e12 _ _ (by decide) (by decide)]; exact a5, by rw [e12 _ _ (by decide) (by decide)]; exact a6⟩, fun k hk => ?_, fun k h1 h5 => ?_, fun t m => ?_, fun k h1 h5 => ?_⟩
  · rw [e12 _ _ (by decide) (by decide)]; exact ⟨v _ _ (by decide) (by decide) (by decide) (by decide) (by decide) (by decide) (b k hk).1, (b k hk).2⟩
  · rw [e12 _ _ (by decide) (by decide), e12 _ _ (by decide) (by decide)]; exact ⟨v _ _ (by decide) (by decide) (by decide) (by decide) (by decide) (by decide) (c k h1 h5).1, (c k h1 h5).2⟩
  · obtain ⟨m1, m2, m3, m4, m5, m6⟩ := mm m
    rw [e12 _ _ (by decide) (by decide)]; exact ⟨v _ _ m1 m2 m3 m4 m5 m6 (d t m).1, (d t m).2⟩
  · rw [e9, e1, hV _ _ (by decide) (by decide) (by decide) (by decide) (by decide) (by decide)]
    exact e k h1 h5
theorem WV_cong {σ σ' : St} (w : WV σ) (h : ∀ a b k, a ≠ 6 → a ≠ 11 → a ≠ 12 → σ' a b k = σ a b k) : WV σ' := by
  have x : ∀ a, a ≠ 6 → a ≠ 11 → a ≠ 12 → ∀ b k, σ' a b k = σ a b k := fun a p q r b k => h a b k p q r
  unfold WV at *
  simp only [x 1 (by decide) (by decide) (by decide), x 2 (by decide) (by decide) (by decide), x 3 (by decide) (by decide) (by decide), x 4 (by decide) (by decide) (by decide), x 5 (by decide) (by decide) (by decide), x 19 (by decide) (by decide) (by decide), x 24 (by decide) (by decide) (by decide), x 25 (by decide) (by decide) (by decide)]
  exact w
theorem WSg_cong {σ σ' : St} (w : WSg σ) (h : ∀ a b k, a ≠ 6 → a ≠ 11 → a ≠ 12 → σ' a b k = σ a b k) : WSg σ' := by
  intro n c hc
  unfold sgnd
  rw [h 28 n c (by decide) (by decide) (by decide), h 3 n 2 (by decide) (by decide) (by decide)]
  exact w n c hc
theorem WC_cong {σ σ' : St} (w : WC σ) (h : ∀ a b k, a ≠ 6 → a ≠ 11 → a ≠ 12 → σ' a b k = σ a b k) : WC σ' := by
  have x : ∀ a, a ≠ 6 → a ≠ 11 → a ≠ 12 → ∀ b k, σ' a b k = σ a b k := fun a p q r b k => h a b k p q r
  unfold WC at *
  simp only [x 1 (by decide) (by decide) (by decide), x 9 (by decide) (by decide) (by decide)]
  exact w
/-- the inside of a new pick -/
def pickI (σ : St) (c k l : Nat) : St := up (up (up (up σ 11 6 (σ 1 5 2) 1) 6 (σ 1 5 2) 0 c) 6 (σ 1 5 2) 1 k) 6 (σ 1 5 2) 2 l
def newPick (σ : St) (c k l : Nat) : St := addS (pickI σ c k l) 5
theorem pIx (σ : St) (c k l a b d : Nat) (h : a ≠ 6 ∧ a ≠ 11) : pickI σ c k l a b d = σ a b d := by simp [pickI, up, h.1, h.2]
theorem pI6 (σ : St) (c k l p j : Nat) (h : p ≠ σ 1 5 2) : pickI σ c k l 6 p j = σ 6 p j := by simp [pickI, up, h]
theorem pI11 (σ : St) (c k l t j : Nat) : pickI σ c k l 11 t j = if t = 6 ∧ j = σ 1 5 2 then 1 else σ 11 t j := by simp [pickI, up]
theorem npx (σ : St) (c k l a b d : Nat) (h : a ≠ 1 ∧ a ≠ 6 ∧ a ≠ 9 ∧ a ≠ 11) : newPick σ c k l a b d = σ a b d := by
  unfold newPick
  rw [asx _ _ _ _ _ ⟨h.1, h.2.2.1, h.2.2.2⟩, pIx _ _ _ _ _ _ _ ⟨h.2.1, h.2.2.2⟩]
theorem np1 (σ : St) (c k l i : Nat) : newPick σ c k l 1 i 2 = if i = 5 then σ 1 5 2 + 1 else σ 1 i 2 := by
  unfold newPick
  rw [as1, pIx _ _ _ _ _ _ _ (by decide), pIx _ _ _ _ _ _ _ (by decide)]
theorem np9 (σ : St) (c k l i : Nat) : newPick σ c k l 9 i 0 = if i = 5 then capA (σ 1 5 2) (σ 9 5 0) else σ 9 i 0 := by
  unfold newPick
  rw [as9, pIx _ _ _ _ _ _ _ (by decide), pIx _ _ _ _ _ _ _ (by decide), pIx _ _ _ _ _ _ _ (by decide)]
theorem np6 (σ : St) (c k l p j : Nat) : newPick σ c k l 6 p j = if p = σ 1 5 2 then (if j = 0 then c else if j = 1 then k else if j = 2 then l else σ 6 p j) else σ 6 p j := by
  unfold newPick
  rw [asx _ _ _ _ _ (by decide)]
  by_cases e : p = σ 1 5 2
  · subst e
    rw [if_pos rfl]
    by_cases j0 : j = 0
    · subst j0; simp [pickI, up]
    · by_cases j1 : j = 1
      · subst j1; simp [pickI, up]
      · by_cases j2 : j = 2
        · subst j2; simp [pickI, up]
        · simp [pickI, up, j0, j1, j2]
  · rw [if_neg e]
    exact pI6 σ c k l p j e
theorem WI_pick {σ : St} (w : WI σ) (hb : σ 1 5 2 < 40000000) {c k l : Nat} : WI (newPick σ c k l) := by
  obtain ⟨a, b, g, d, e⟩ := w
  obtain ⟨a0, a1, a2, a3, a4⟩ := WA_01 a
  have xx : ∀ t i j, t ≠ 6 → t ≠ 11 → t ≠ 12 → pickI σ c k l t i j = σ t i j := fun t i j h1 h2 _ => pIx σ c k l t i j ⟨h1, h2⟩
  have xV : ∀ t i, t ≠ 6 → (V (pickI σ c k l) t i ↔ V σ t i) := fun t i h => by unfold V; rw [pI11, if_neg (fun z => h z.1)]
  have x12 : ∀ t i, pickI σ c k l 12 t i = σ 12 t i := fun t i => pIx σ c k l 12 t i (by decide)
  have x1 : ∀ i, pickI σ c k l 1 i 2 = σ 1 i 2 := fun i => pIx σ c k l 1 i 2 (by decide)
  have x9 : ∀ i, pickI σ c k l 9 i 0 = σ 9 i 0 := fun i => pIx σ c k l 9 i 0 (by decide)
  have b0 : WA0 (pickI σ c k l) := WA0_cong a0 (fun t i _ _ _ h _ _ => xV t i h) (fun t i _ _ => x12 t i) x9 x1
  have b1 : WA1 (pickI σ c k l) (σ 1 1 2) (σ 1 2 2) (σ 1 3 2) (σ 1 5 2 + 1) := by
    refine ⟨fun i => ?_, fun i => ?_, fun i => ?_, fun i => ?_⟩
    · rw [xV _ _ (by decide)]; exact a1 i
    · rw [xV _ _ (by decide), xV _ _ (by decide), x12]; exact a2 i
    · rw [xV _ _ (by decide), xV _ _ (by decide), x12]; exact a3 i
    · unfold V
      rw [pI11]
      by_cases q : i = σ 1 5 2
      · rw [if_pos ⟨rfl, q⟩]; omega
      · rw [if_neg (fun z => q z.2)]
        have := a4 i
        unfold V at this
        omega
  obtain ⟨-, k2, k3, -⟩ := capA5 d.2.1 d.2.2
  have sz := (a.2.2.2.2.2.2.2.2 5 (by decide) (by decide)).2.1
  have zI : WZ (pickI σ c k l) → True := fun _ => trivial
  refine ⟨WA_of (WA0_add b0 (by rw [x1, x9]; exact k3 sz) (by rw [x1, x9]; omega)) (WA1_add b1) ?_ ?_ ?_ ?_, WV_add (WV_cong b xx) (Or.inr rfl), WSg_add (WSg_cong g xx), WC_add5 (WC_cong d xx), ?_⟩
  · rw [np1, if_neg (by decide)]
  · rw [np1, if_neg (by decide)]
  · rw [np1, if_neg (by decide)]
  · rw [np1, if_pos rfl]
  · obtain ⟨z1, z2, z3, z4⟩ := e
    refine ⟨fun l' j h => ?_, fun l' j h => ?_, fun l' j h => ?_, fun p j h => ?_⟩
    · have h : newPick σ c k l 1 1 2 ≤ l' := h
      rw [np1, if_neg (by decide)] at h
      show newPick σ c k l 5 l' j = 0
      rw [npx _ _ _ _ _ _ _ (by decide)]; exact z1 l' j h
    · have h : newPick σ c k l 1 2 2 ≤ l' := h
      rw [np1, if_neg (by decide)] at h
      show newPick σ c k l 2 l' j = 0 ∧ newPick σ c k l 24 l' j = 0
      rw [npx _ _ _ _ _ _ _ (by decide), npx _ _ _ _ _ _ _ (by decide)]; exact z2 l' j h
    · have h : newPick σ c k l 1 3 2 ≤ l' := h
      rw [np1, if_neg (by decide)] at h
      show newPick σ c k l 3 l' j = 0 ∧ newPick σ c k l 19 l' j = 0 ∧ newPick σ c k l 28 l' j = 0
      rw [npx _ _ _ _ _ _ _ (by decide), npx _ _ _ _ _ _ _ (by decide), npx _ _ _ _ _ _ _ (by decide)]; exact z3 l' j h
    · have h : newPick σ c k l 1 5 2 ≤ p := h
      rw [np1, if_pos rfl] at h
      show newPick σ c k l 6 p j = 0
      rw [np6, if_neg (by omega)]; exact z4 p j (by omega)
section PK
variable {dE : Nat} {ad : Nat → Nat → Nat} {ρ : St} {μ : Mu} {h : Hp}
theorem p_newPick (r : RR dE ad ρ μ h) (w : WI ρ) (hb : ρ 1 5 2 < 40000000) {q c k l : Nat} (z : hT h q = 0) {mc ms : Nat} (h1 : 2 ≤ mc) (h2 : 3 + (4 * (capA (ρ 1 5 2) (ρ 9 5 0) - ρ 9 5 0)) ≤ ms) {post : Hp → Nat → Nat → Prop} (hp : ∀ ad' h', (∀ t j, t ≠ 26 → t ≠ 6 → ad' t j = ad t j) → RR dE ad' (newPick ρ c k l) μ h' → post h' 2 (3 + (4 * (capA (ρ 1 5 2) (ρ 9 5 0) - ρ 9 5 0)))) :
    wp_X4_init (sN h q 6 0) q (nI c) (nI k) (nI l) (fun h26 => (∃ k27 n27 : Nat, (1 + k27 ≤ mc ∧ (3 + n27 ≤ ms ∧ (hT h26 (ad 1 5) = 1 ∧ wp_Jx4a65c_add_9ea2d dE k27 n27 h26 (ad 1 5) q (fun x27 h27 => post h27 (1 + k27) (3 + n27))))))) := by
  have a := w.1
  have nv : ¬ V ρ 6 (ρ 1 5 2) := fun v => by have := (a.2.2.2.2.2.2.2.1 _).mp v; omega
  have r0 : RR dE (au ad 6 (ρ 1 5 2) q) (up ρ 11 6 (ρ 1 5 2) 1) μ (sN h q 6 0) := r.new (t := 6) z nv (by decide) rfl (fun j _ => w.2.2.2.2.2.2.2 _ j (Nat.le_refl _)) (fun j x hx => by cases hx) (fun e => by cases e) (fun e => by cases e) (fun e => by cases e)
  have e0 : au ad 6 (ρ 1 5 2) q 6 (ρ 1 5 2) = q := au_eq
  have v0 : V (up ρ 11 6 (ρ 1 5 2) 1) 6 (ρ 1 5 2) := by unfold V; rw [up_eq]; decide
  unfold wp_X4_init
  refine ⟨by rw [hT_sN, if_pos rfl], fun ha ea hb2 eb hc ec => ?_⟩
  have r1 := r0.setI (v := c) v0 (j := 0) rfl (by decide)
  rw [e0, ← ea] at r1
  have r2 := r1.setI (v := k) ((V_up (by decide) _ _).mpr v0) (j := 1) rfl (by decide)
  rw [e0, ← eb] at r2
  have r3 := r2.setI (v := l) ((V_up (by decide) _ _).mpr ((V_up (by decide) _ _).mpr v0)) (j := 2) rfl (by decide)
  rw [e0, ← ec] at r3
  have r3 : RR dE (au ad 6 (ρ 1 5 2) q) (pickI ρ c k l) μ hc := r3
  have x1 : pickI ρ c k l 1 5 2 = ρ 1 5 2 := pIx ρ c k l 1 5 2 (by decide)
  have x9 : pickI ρ c k l 9 5 0 = ρ 9 5 0 := pIx ρ c k l 9 5 0 (by decide)
  have x12 : pickI ρ c k l 12 1 5 = ρ 12 1 5 := pIx ρ c k l 12 1 5 (by decide)
  have xV : ∀ t i, t ≠ 6 → (V (pickI ρ c k l) t i ↔ V ρ t i) := fun t i h => by unfold V; rw [pI11, if_neg (fun z => h z.1)]
  have v1 : V (pickI ρ c k l) 1 5 := (xV _ _ (by decide)).mpr (a.2.2.1 5 (by decide) (by decide)).1
  have v6 : V (pickI ρ c k l) 6 (ρ 1 5 2) := by unfold V; rw [pI11, if_pos ⟨rfl, rfl⟩]; decide
  obtain ⟨c1, c2, c3⟩ := w.2.2.2.1
  obtain ⟨-, k2, k3, -⟩ := capA5 c2 c3
  have e15 : au ad 6 (ρ 1 5 2) q 1 5 = ad 1 5 := au_ne (fun z => by cases z.1)
  have sz := (a.2.2.2.2.2.2.2.2 5 (by decide) (by decide)).2.1
  have wl : WLi (pickI ρ c k l) 5 := ⟨v1, by rw [x12]; exact (a.2.2.1 5 (by decide) (by decide)).2.1, by rw [xV _ _ (by decide), x9]; exact (a.2.2.2.2.2.2.2.2 5 (by decide) (by decide)).1, by rw [x1, x9]; exact sz, by rw [x9]; omega, by rw [x9]; exact c2⟩
  refine ⟨1, 4 * (capA (ρ 1 5 2) (ρ 9 5 0) - ρ 9 5 0), by omega, by omega, by rw [← e15]; exact r3.tag v1, ?_⟩
  have main := p_add (mc := 1) (ms := 4 * (capA (ρ 1 5 2) (ρ 9 5 0) - ρ 9 5 0)) (i := 5) (p := (6, ρ 1 5 2)) r3 wl (by rw [x1]; rfl) v6 (fun en => ⟨by omega, ?_⟩) (post := fun _ h27 => post h27 2 (3 + (4 * (capA (ρ 1 5 2) (ρ 9 5 0) - ρ 9 5 0)))) (fun ad' h' had r' => hp ad' h' (fun t j n26 n6 => (had t j n26).trans (au_ne (fun z => n6 z.1))) r')
  · rw [e15] at main
    have e6 : au ad 6 (ρ 1 5 2) q (6, ρ 1 5 2).1 (6, ρ 1 5 2).2 = q := e0
    rw [e6] at main
    exact main
  · rw [x1, x9] at en ⊢
    unfold capA
    rw [if_pos en]
    split <;> omega
end PK

