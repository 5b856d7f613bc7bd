/-! a kind is fitted -/
def lastP (σ : St) (c k : Nat) : Nat → Nat
  | 0 => NN
  | p + 1 => if σ 6 p 0 = c ∧ σ 6 p 1 = k then σ 6 p 2 else lastP σ c k p
def WPk (σ : St) : Prop := (∀ p, σ 6 p 0 < 30 ∧ σ 6 p 1 < 10) ∧ (∀ c k, c < σ 1 2 2 → k < 10 → lastP σ c k (σ 1 5 2) = if σ 24 c k = 0 then NN else σ 24 c k - 1) ∧ ∀ p, p < σ 1 5 2 → σ 6 p 0 < σ 1 2 2
def WW (σ : St) : Prop := WI σ ∧ WL σ ∧ WPk σ
def takeS (σ : St) (c k : Nat) : St := if σ 24 c k = 0 then σ else newPick (up (up (up σ 24 c k 0) 2 c 6 0) 7 0 8 (σ 7 0 8 + 1)) c k NN
def pickAt (σ : St) (c k l : Nat) : St := newPick (up (up (up σ 5 l 3 (σ 5 l 3 - 1)) 24 c k (l + 1)) 2 c 6 0) c k l
def pickN (σ : St) (c k : Nat) : Nat → Nat → St
  | _, 0 => σ
  | l, d + 1 => if σ 5 l 1 = k ∧ σ 5 l 4 = 0 ∧ ¬ σ 5 l 3 = 0 then pickAt σ c k l else pickN σ c k (l + 1) d
def pickS (σ : St) (c k : Nat) : St := pickN σ c k 0 (σ 1 1 2)
def fit1 (σ : St) (c k : Nat) : St := pickS (takeS σ c k) c k
theorem lastP_cong {σ σ' : St} {c k : Nat} : ∀ n, (∀ p, p < n → ∀ j, σ' 6 p j = σ 6 p j) → lastP σ' c k n = lastP σ c k n := by
  intro n
  induction n with
  | zero => exact fun _ => rfl
  | succ n ih =>
    intro h
    unfold lastP
    rw [h n (by omega), h n (by omega), h n (by omega), ih (fun p hp => h p (by omega))]
theorem WL_pick {σ : St} (h : WL σ) {c k l : Nat} : WL (newPick σ c k l) := by
  have x : ∀ a, a ≠ 1 → a ≠ 6 → a ≠ 9 → a ≠ 11 → ∀ b d, newPick σ c k l a b d = σ a b d := fun a p q r s b d => npx σ c k l a b d ⟨p, q, r, s⟩
  have e2 : newPick σ c k l 1 2 2 = σ 1 2 2 := by rw [np1, if_neg (by decide)]
  have e4 : newPick σ c k l 1 4 2 = σ 1 4 2 := by rw [np1, if_neg (by decide)]
  unfold WL WL1 WL5 WL6 at *
  simp only [x 2 (by decide) (by decide) (by decide) (by decide), x 10 (by decide) (by decide) (by decide) (by decide), x 25 (by decide) (by decide) (by decide) (by decide), x 26 (by decide) (by decide) (by decide) (by decide), x 27 (by decide) (by decide) (by decide) (by decide), e2, e4]
  exact h
theorem WPk_pick {σ : St} {c k v l : Nat} (h1 : ∀ p, σ 6 p 0 < 30 ∧ σ 6 p 1 < 10) (h : ∀ c' k', c' < σ 1 2 2 → k' < 10 → (c' = c ∧ k' = k → l = if σ 24 c' k' = 0 then NN else σ 24 c' k' - 1) ∧ (¬ (c' = c ∧ k' = k) → lastP σ c' k' (σ 1 5 2) = if σ 24 c' k' = 0 then NN else σ 24 c' k' - 1)) (hc : c < 30) (hk : k < 10) (h3 : ∀ p, p < σ 1 5 2 → σ 6 p 0 < σ 1 2 2) (hcc : c < σ 1 2 2) : WPk (newPick σ c k l) := by
  refine ⟨fun p => ?_, fun c' k' hc' hk' => ?_, fun p hp => ?_⟩
  · rw [np6, np6]
    by_cases e : p = σ 1 5 2
    · rw [if_pos e, if_pos e]; exact ⟨hc, hk⟩
    · rw [if_neg e, if_neg e]; exact h1 p
  · rw [np1, if_neg (by decide)] at hc'
    rw [np1, if_pos rfl, npx _ _ _ _ _ _ _ (by decide)]
    have e0 : newPick σ c k l 6 (σ 1 5 2) 0 = c := by rw [np6, if_pos rfl]; rfl
    have e1 : newPick σ c k l 6 (σ 1 5 2) 1 = k := by rw [np6, if_pos rfl]; rfl
    have e2 : newPick σ c k l 6 (σ 1 5 2) 2 = l := by rw [np6, if_pos rfl]; rfl
    show (if newPick σ c k l 6 (σ 1 5 2) 0 = c' ∧ newPick σ c k l 6 (σ 1 5 2) 1 = k' then newPick σ c k l 6 (σ 1 5 2) 2 else lastP (newPick σ c k l) c' k' (σ 1 5 2)) = _
    rw [e0, e1, e2]
    by_cases q : c = c' ∧ k = k'
    · rw [if_pos q]; exact (h c' k' hc' hk').1 ⟨q.1.symm, q.2.symm⟩
    · rw [if_neg q, lastP_cong (σ := σ) (σ 1 5 2) (fun p hp j => by rw [np6, if_neg (by omega)])]
      exact (h c' k' hc' hk').2 (fun z => q ⟨z.1.symm, z.2.symm⟩)
  · rw [np1, if_pos rfl] at hp
    rw [np1, if_neg (by decide), np6]
    by_cases e : p = σ 1 5 2
    · rw [if_pos e]; exact hcc
    · rw [if_neg e]; exact h3 p (by omega)
theorem WPk_up {σ : St} (h : WPk σ) {t i j v : Nat} (n : t ≠ 1 ∧ t ≠ 6 ∧ t ≠ 24) : WPk (up σ t i j v) := by
  have e1 : ∀ a k, up σ t i j v 1 a k = σ 1 a k := fun a k => up_ne (fun z => n.1 z.1.symm)
  have e6 : ∀ a k, up σ t i j v 6 a k = σ 6 a k := fun a k => up_ne (fun z => n.2.1 z.1.symm)
  have e24 : ∀ a k, up σ t i j v 24 a k = σ 24 a k := fun a k => up_ne (fun z => n.2.2 z.1.symm)
  refine ⟨fun p => by rw [e6, e6]; exact h.1 p, fun c k hc hk => ?_, fun p hp => by rw [e1] at hp; rw [e6, e1]; exact h.2.2 p hp⟩
  rw [e1] at hc
  rw [e1, e24, lastP_cong (σ := σ) _ (fun p _ j => e6 p j)]
  exact h.2.1 c k hc hk
/-- what a fitting leaves -/
def FX (σ τ : St) (n : Nat) : Prop := WW τ ∧ (∀ a i j, a ≠ 5 → a ≠ 24 → a ≠ 6 → a ≠ 9 → a ≠ 11 → ¬ (a = 2 ∧ j = 6) → ¬ (a = 7 ∧ j = 8) → ¬ (a = 1 ∧ i = 5) → τ a i j = σ a i j) ∧ (∀ i j, j ≠ 3 → τ 5 i j = σ 5 i j) ∧ σ 1 5 2 ≤ τ 1 5 2 ∧ τ 1 5 2 ≤ σ 1 5 2 + n ∧ σ 9 5 0 ≤ τ 9 5 0 ∧ (∀ i, i ≠ 5 → τ 9 i 0 = σ 9 i 0)
theorem FX_refl {σ : St} (w : WW σ) : FX σ σ 0 := ⟨w, fun _ _ _ _ _ _ _ _ _ _ _ => rfl, fun _ _ _ => rfl, Nat.le_refl _, Nat.le_refl _, Nat.le_refl _, fun _ _ => rfl⟩
theorem FX_trans {σ τ υ : St} {m n : Nat} (a : FX σ τ m) (b : FX τ υ n) : FX σ υ (m + n) := by
  obtain ⟨-, a1, a2, a3, a4, a5, a6⟩ := a
  obtain ⟨w, b1, b2, b3, b4, b5, b6⟩ := b
  exact ⟨w, fun x i j h1 h2 h3 h4 h5 h6 h7 h8 => (b1 x i j h1 h2 h3 h4 h5 h6 h7 h8).trans (a1 x i j h1 h2 h3 h4 h5 h6 h7 h8), fun i j h => (b2 i j h).trans (a2 i j h), by omega, by omega, by omega, fun i h => (b6 i h).trans (a6 i h)⟩
theorem FX_mono {σ τ : St} {m n : Nat} (a : FX σ τ m) (h : m ≤ n) : FX σ τ n := ⟨a.1, a.2.1, a.2.2.1, a.2.2.2.1, by have := a.2.2.2.2.1; omega, a.2.2.2.2.2.1, a.2.2.2.2.2.2⟩
theorem FX_take {σ : St} (w : WW σ) {c k : Nat} (hc : c < σ 1 2 2) (hk : k < 10) (hb : σ 1 5 2 < 40000000) : FX σ (takeS σ c k) 1 := by
  unfold takeS
  by_cases z : σ 24 c k = 0
  · rw [if_pos z]; exact FX_mono (FX_refl w) (by omega)
  · rw [if_neg z]
    obtain ⟨wi, wl, wp⟩ := w
    have h30 : c < 30 := by have := wi.2.1.2.2.2.2.1.2.1; omega
    have hs : up (up (up σ 24 c k 0) 2 c 6 0) 7 0 8 (σ 7 0 8 + 1) 1 5 2 = σ 1 5 2 := by simp [up]
    have h9 : ∀ i, up (up (up σ 24 c k 0) 2 c 6 0) 7 0 8 (σ 7 0 8 + 1) 9 i 0 = σ 9 i 0 := by simp [up]
    have wi2 : WI (up (up (up σ 24 c k 0) 2 c 6 0) 7 0 8 (σ 7 0 8 + 1)) := WI_up (WI_up (WI_up wi (by simp [okU, hc])) (by simp [okU, up, hc])) (by simp [okU])
    obtain ⟨-, -, -, k4⟩ := capA5 wi.2.2.2.1.2.1 wi.2.2.2.1.2.2
    refine ⟨⟨WI_pick wi2 (by rw [hs]; exact hb), WL_pick (WL_up (WL_up (WL_up wl (by simp)) (by simp)) (by simp)), WPk_pick (v := 0) (fun p => ?_) (fun c' k' hc' hk' => ⟨fun e => ?_, fun e => ?_⟩) h30 hk (fun p hp => by simpa [up] using wp.2.2 p (by simpa [up] using hp)) (by simpa [up] using hc)⟩, fun a i j h1 h2 h3 h4 h5 h6 h7 h8 => ?_, fun i j h => ?_, ?_, ?_, ?_, fun i h => ?_⟩
    · have := wp.1 p
      simpa [up] using this
    · obtain ⟨rfl, rfl⟩ := e
      simp [up]
    · have e24 : up (up (up σ 24 c k 0) 2 c 6 0) 7 0 8 (σ 7 0 8 + 1) 24 c' k' = σ 24 c' k' := by
        simp only [up]
        rw [if_neg (fun z => by cases z.1), if_neg (fun z => by cases z.1), if_neg (fun z => e z.2)]
      have hc2 : c' < σ 1 2 2 := by simpa [up] using hc'
      rw [hs, e24, lastP_cong (σ := σ) _ (fun p _ j => by simp [up])]
      exact wp.2.1 c' k' hc2 hk'
    · by_cases a1 : a = 1
      · subst a1
        have i5 : i ≠ 5 := fun e => h8 ⟨rfl, e⟩
        by_cases j2 : j = 2
        · subst j2; rw [np1, if_neg i5]; simp [up]
        · unfold newPick addS pickI; simp [up, j2]
      · rw [npx _ _ _ _ _ _ _ ⟨a1, h3, h4, h5⟩]
        simp only [up]
        rw [if_neg (fun z => h7 ⟨z.1, z.2.2⟩), if_neg (fun z => h6 ⟨z.1, z.2.2⟩), if_neg (fun z => h2 z.1)]
    · rw [npx _ _ _ _ _ _ _ (by decide)]; simp [up]
    · rw [np1, if_pos rfl, hs]; omega
    · rw [np1, if_pos rfl, hs]; omega
    · rw [np9, if_pos rfl, hs, h9]; exact k4
    · rw [np9, if_neg h, h9]
theorem take24 {σ : St} {c k : Nat} : takeS σ c k 24 c k = 0 := by
  unfold takeS
  by_cases z : σ 24 c k = 0
  · rw [if_pos z]; exact z
  · rw [if_neg z, npx _ _ _ _ _ _ _ (by decide)]; simp [up]
theorem FX_at {σ : St} (w : WW σ) {c k l : Nat} (hc : c < σ 1 2 2) (hk : k < 10) (hl : l < σ 1 1 2) (hb : σ 1 5 2 < 40000000) : FX σ (pickAt σ c k l) 1 := by
  unfold pickAt
  obtain ⟨wi, wl, wp⟩ := w
  have h30 : c < 30 := by have := wi.2.1.2.2.2.2.1.2.1; omega
  have hs : up (up (up σ 5 l 3 (σ 5 l 3 - 1)) 24 c k (l + 1)) 2 c 6 0 1 5 2 = σ 1 5 2 := by simp [up]
  have h9 : ∀ i, up (up (up σ 5 l 3 (σ 5 l 3 - 1)) 24 c k (l + 1)) 2 c 6 0 9 i 0 = σ 9 i 0 := by simp [up]
  have u50 : σ 5 l 3 - 1 ≤ 50 := by have := (wi.2.1.2.1 l).2.2.1; omega
  have wi2 : WI (up (up (up σ 5 l 3 (σ 5 l 3 - 1)) 24 c k (l + 1)) 2 c 6 0) := WI_up (WI_up (WI_up wi (by simp [okU, hl]; omega)) (by simp [okU, up, hc]; omega)) (by simp [okU, up, hc])
  obtain ⟨-, -, -, k4⟩ := capA5 wi.2.2.2.1.2.1 wi.2.2.2.1.2.2
  refine ⟨⟨WI_pick wi2 (by rw [hs]; exact hb), WL_pick (WL_up (WL_up (WL_up wl (by simp)) (by simp)) (by simp)), WPk_pick (v := 0) (fun p => ?_) (fun c' k' hc' hk' => ⟨fun e => ?_, fun e => ?_⟩) h30 hk (fun p hp => by simpa [up] using wp.2.2 p (by simpa [up] using hp)) (by simpa [up] using hc)⟩, fun a i j h1 h2 h3 h4 h5 h6 h7 h8 => ?_, fun i j h => ?_, ?_, ?_, ?_, fun i h => ?_⟩
  · have := wp.1 p
    simpa [up] using this
  · obtain ⟨rfl, rfl⟩ := e
    simp [up]
  · have e24 : up (up (up σ 5 l 3 (σ 5 l 3 - 1)) 24 c k (l + 1)) 2 c 6 0 24 c' k' = σ 24 c' k' := by
      simp only [up]
      rw [if_neg (fun z => by cases z.1), if_neg (fun z => e z.2), if_neg (fun z => by cases z.1)]
    have hc2 : c' < σ 1 2 2 := by simpa [up] using hc'
    rw [hs, e24, lastP_cong (σ := σ) _ (fun p _ j => by simp [up])]
    exact wp.2.1 c' k' hc2 hk'
  · by_cases a1 : a = 1
    · subst a1
      have i5 : i ≠ 5 := fun e => h8 ⟨rfl, e⟩
      by_cases j2 : j = 2
      · subst j2; rw [np1, if_neg i5]; simp [up]
      · unfold newPick addS pickI; simp [up, j2]
    · rw [npx _ _ _ _ _ _ _ ⟨a1, h3, h4, h5⟩]
      simp only [up]
      rw [if_neg (fun z => h6 ⟨z.1, z.2.2⟩), if_neg (fun z => h2 z.1), if_neg (fun z => h1 z.1)]
  · rw [npx _ _ _ _ _ _ _ (by decide)]; simp [up, h]
  · rw [np1, if_pos rfl, hs]; omega
  · rw [np1, if_pos rfl, hs]; omega
  · rw [np9, if_pos rfl, hs, h9]; exact k4
  · rw [np9, if_neg h, h9]
theorem FX_pickN {σ : St} (w : WW σ) {c k : Nat} (hc : c < σ 1 2 2) (hk : k < 10) (hb : σ 1 5 2 < 40000000) : ∀ d l, l + d = σ 1 1 2 → FX σ (pickN σ c k l d) 1 := by
  intro d
  induction d with
  | zero => exact fun l e => FX_mono (FX_refl w) (by omega)
  | succ d ih =>
    intro l e
    unfold pickN
    by_cases q : σ 5 l 1 = k ∧ σ 5 l 4 = 0 ∧ ¬ σ 5 l 3 = 0
    · rw [if_pos q]; exact FX_at w hc hk (by omega) hb
    · rw [if_neg q]; exact ih (l + 1) (by omega)
theorem FX_fit1 {σ : St} (w : WW σ) {c k : Nat} (hc : c < σ 1 2 2) (hk : k < 10) (hb : σ 1 5 2 < 30000000) : FX σ (fit1 σ c k) 2 := by
  have a := FX_take w hc hk (by omega : σ 1 5 2 < 40000000)
  have e2 : takeS σ c k 1 2 2 = σ 1 2 2 := a.2.1 1 2 2 (by decide) (by decide) (by decide) (by decide) (by decide) (by decide) (by decide) (by decide)
  exact FX_trans a (FX_pickN a.1 (by rw [e2]; exact hc) hk (by have := a.2.2.2.2.1; omega) _ 0 (by omega))

