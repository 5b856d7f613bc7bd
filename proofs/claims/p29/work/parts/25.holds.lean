def WSg (σ : St) : Prop := ∀ n c, c < 30 → σ 28 n c ≤ 1 ∧ sgnd σ n c = decide (σ 28 n c ≠ 0)
/-! what holds between the steps -/
def capO (c : Nat) : Prop := c = 0 ∨ c = 10 ∨ c = 15 ∨ c = 22 ∨ c = 33 ∨ c = 49
def WC (σ : St) : Prop := (∀ i, 1 ≤ i → i ≤ 4 → capO (σ 9 i 0)) ∧ (σ 9 5 0 = 0 ∨ 10 ≤ σ 9 5 0) ∧ σ 9 5 0 ≤ 10 + 2 * σ 1 5 2
def WZ (σ : St) : Prop := (∀ l j, σ 1 1 2 ≤ l → σ 5 l j = 0) ∧ (∀ c j, σ 1 2 2 ≤ c → σ 2 c j = 0 ∧ σ 24 c j = 0) ∧ (∀ n j, σ 1 3 2 ≤ n → σ 3 n j = 0 ∧ σ 19 n j = 0 ∧ σ 28 n j = 0) ∧ (∀ p j, σ 1 5 2 ≤ p → σ 6 p j = 0)
def WI (σ : St) : Prop := WA σ ∧ WV σ ∧ WSg σ ∧ WC σ ∧ WZ σ
def okU (σ : St) (t i j v : Nat) : Prop := (t ≠ 1 ∧ t ≠ 9 ∧ t ≠ 11 ∧ t ≠ 12 ∧ t ≠ 28 ∧ ¬ (t = 3 ∧ j = 2)) ∧ (t = 4 ∧ j = 0 → v < 5) ∧ (t = 4 ∧ j = 3 → v ≤ 1) ∧ (t = 5 ∧ j = 0 ∧ i < σ 1 1 2 → v = i) ∧ (t = 5 ∧ j = 1 → v < 10) ∧ (t = 5 ∧ j = 2 → v < 100) ∧ (t = 5 ∧ j = 3 → v ≤ 50) ∧ (t = 5 ∧ j = 4 → v ≤ 1) ∧ (t = 2 ∧ j = 0 ∧ i < σ 1 2 2 → v = i) ∧ (t = 2 ∧ j = 3 → v ≤ 3) ∧ (t = 2 ∧ j = 6 → v ≤ 1) ∧ (t = 2 ∧ j = 7 → v ≤ 1) ∧ (t = 2 ∧ j = 8 → v ≤ 1) ∧ (t = 2 ∧ j = 4 → v < 8 ∨ v = NN) ∧ (t = 2 ∧ j = 9 → v < 8) ∧ (t = 2 ∧ j = 5 → v ≤ σ 1 3 2) ∧ (t = 19 → v < 100) ∧ (t = 3 ∧ j = 0 ∧ i < σ 1 3 2 → v = i) ∧ (t = 24 → v ≤ σ 1 1 2) ∧ (t = 25 ∧ i = 0 → v ≤ σ 1 2 2) ∧
  ((t = 5 → i < σ 1 1 2) ∧ (t = 2 ∨ t = 24 → i < σ 1 2 2) ∧ (t = 3 ∨ t = 19 → i < σ 1 3 2) ∧ (t = 6 → i < σ 1 5 2))
theorem up_or (σ : St) (t i j v a b k : Nat) : (up σ t i j v a b k = v ∧ a = t ∧ b = i ∧ k = j) ∨ up σ t i j v a b k = σ a b k := by
  unfold up
  split
  · rename_i z; exact Or.inl ⟨rfl, z⟩
  · exact Or.inr rfl
theorem up_case {σ : St} {t i j v a b k : Nat} {P : Nat → Prop} (h1 : t = a → i = b → j = k → P v) (h2 : P (σ a b k)) : P (up σ t i j v a b k) := by
  unfold up
  split
  · rename_i z; exact h1 z.1.symm z.2.1.symm z.2.2.symm
  · exact h2
theorem WV_up {σ : St} {t i j v : Nat} (w : WV σ) (o : okU σ t i j v) : WV (up σ t i j v) := by
  obtain ⟨w1, w2, w3, w4, ⟨s1, s2, s3, s4⟩, w6, w7, w8, w9, w10, w11⟩ := w
  obtain ⟨oA, o40, o43, o50, o51, o52, o53, o54, o20, o23, o26, o27, o28, o24, o29, o25, o19, o30, oP, oL, oZ⟩ := o
  have e : ∀ k, up σ t i j v 1 k 2 = σ 1 k 2 := fun k => up_ne (fun z => oA.1 z.1.symm)
  refine ⟨fun k => ⟨?_, ?_⟩, fun l => ⟨?_, ?_, ?_, ?_⟩, fun c => ⟨?_, ?_, ?_, ?_, ?_, ?_⟩, fun n k => ?_, ⟨by rw [e]; exact s1, by rw [e]; exact s2, by rw [e]; exact s3, by rw [e]; exact s4⟩, fun l hl => ?_, fun c hc => ?_, fun n hn => ?_, fun c k => ?_, fun c => ?_, fun s => ?_⟩
  · exact up_case (P := fun x => x < 5) (fun a _ b => o40 ⟨a, b⟩) (w1 k).1
  · exact up_case (P := fun x => x ≤ 1) (fun a _ b => o43 ⟨a, b⟩) (w1 k).2
  · exact up_case (P := fun x => x < 10) (fun a _ b => o51 ⟨a, b⟩) (w2 l).1
  · exact up_case (P := fun x => x < 100) (fun a _ b => o52 ⟨a, b⟩) (w2 l).2.1
  · exact up_case (P := fun x => x ≤ 50) (fun a _ b => o53 ⟨a, b⟩) (w2 l).2.2.1
  · exact up_case (P := fun x => x ≤ 1) (fun a _ b => o54 ⟨a, b⟩) (w2 l).2.2.2
  · exact up_case (P := fun x => x ≤ 3) (fun a _ b => o23 ⟨a, b⟩) (w3 c).1
  · exact up_case (P := fun x => x ≤ 1) (fun a _ b => o26 ⟨a, b⟩) (w3 c).2.1
  · exact up_case (P := fun x => x ≤ 1) (fun a _ b => o27 ⟨a, b⟩) (w3 c).2.2.1
  · exact up_case (P := fun x => x ≤ 1) (fun a _ b => o28 ⟨a, b⟩) (w3 c).2.2.2.1
  · exact up_case (P := fun x => x < 8 ∨ x = NN) (fun a _ b => o24 ⟨a, b⟩) (w3 c).2.2.2.2.1
  · exact up_case (P := fun x => x < 8) (fun a _ b => o29 ⟨a, b⟩) (w3 c).2.2.2.2.2
  · exact up_case (P := fun x => x < 100) (fun a _ _ => o19 a) (w4 n k)
  · rw [e] at hl
    exact up_case (P := fun x => x = l) (fun a b c => (o50 ⟨a, c, by rw [b]; exact hl⟩).trans b) (w6 l hl)
  · rw [e] at hc
    exact up_case (P := fun x => x = c) (fun a b d => (o20 ⟨a, d, by rw [b]; exact hc⟩).trans b) (w7 c hc)
  · rw [e] at hn
    exact up_case (P := fun x => x = n) (fun a b d => (o30 ⟨a, d, by rw [b]; exact hn⟩).trans b) (w8 n hn)
  · rw [e]
    exact up_case (P := fun x => x ≤ σ 1 1 2) (fun a _ _ => oP a) (w9 c k)
  · rw [e]
    exact up_case (P := fun x => x ≤ σ 1 3 2) (fun a _ b => o25 ⟨a, b⟩) (w10 c)
  · rw [e]
    exact up_case (P := fun x => x ≤ σ 1 2 2) (fun a b _ => oL ⟨a, b⟩) (w11 s)
theorem WSg_up {σ : St} {t i j v : Nat} (w : WSg σ) (n28 : t ≠ 28) (n3 : ¬ (t = 3 ∧ j = 2)) : WSg (up σ t i j v) := by
  intro n c hc
  have e28 : up σ t i j v 28 n c = σ 28 n c := up_ne (fun z => n28 z.1.symm)
  have e3 : up σ t i j v 3 n 2 = σ 3 n 2 := up_ne (fun z => n3 ⟨z.1.symm, z.2.2.symm⟩)
  unfold sgnd
  rw [e28, e3]
  exact w n c hc
theorem WC_up {σ : St} {t i j v : Nat} (w : WC σ) (n1 : t ≠ 1) (n9 : t ≠ 9) : WC (up σ t i j v) := by
  have e9 : ∀ k, up σ t i j v 9 k 0 = σ 9 k 0 := fun k => up_ne (fun z => n9 z.1.symm)
  have e1 : ∀ k, up σ t i j v 1 k 2 = σ 1 k 2 := fun k => up_ne (fun z => n1 z.1.symm)
  unfold WC at *
  simp only [e9, e1]
  exact w
theorem WZ_up {σ : St} {t i j v : Nat} (w : WZ σ) (o : okU σ t i j v) : WZ (up σ t i j v) := by
  obtain ⟨w1, w2, w3, w4⟩ := w
  obtain ⟨oA, o40, o43, o50, o51, o52, o53, o54, o20, o23, o26, o27, o28, o24, o29, o25, o19, o30, oP, oL, z5, z2, z3, z6⟩ := o
  have e : ∀ k, up σ t i j v 1 k 2 = σ 1 k 2 := fun k => up_ne (fun z => oA.1 z.1.symm)
  refine ⟨fun l j hl => ?_, fun c j hc => ⟨?_, ?_⟩, fun n j hn => ⟨?_, ?_, ?_⟩, fun p j hp => ?_⟩
  · rw [e] at hl
    rw [up_ne (fun z => by have := z5 z.1.symm; have := z.2.1; omega)]
    exact w1 l j hl
  · rw [e] at hc
    rw [up_ne (fun z => by have := z2 (Or.inl z.1.symm); have := z.2.1; omega)]
    exact (w2 c j hc).1
  · rw [e] at hc
    rw [up_ne (fun z => by have := z2 (Or.inr z.1.symm); have := z.2.1; omega)]
    exact (w2 c j hc).2
  · rw [e] at hn
    rw [up_ne (fun z => by have := z3 (Or.inl z.1.symm); have := z.2.1; omega)]
    exact (w3 n j hn).1
  · rw [e] at hn
    rw [up_ne (fun z => by have := z3 (Or.inr z.1.symm); have := z.2.1; omega)]
    exact (w3 n j hn).2.1
  · rw [e] at hn
    rw [up_ne (fun z => oA.2.2.2.2.1 z.1.symm)]
    exact (w3 n j hn).2.2
  · rw [e] at hp
    rw [up_ne (fun z => by have := z6 z.1.symm; have := z.2.1; omega)]
    exact w4 p j hp
theorem WI_up {σ : St} {t i j v : Nat} (w : WI σ) (o : okU σ t i j v) : WI (up σ t i j v) := by
  obtain ⟨a, b, c, d, e⟩ := w
  have o1 := o
  obtain ⟨⟨n1, n9, n11, n12, n28, n3⟩, -⟩ := o1
  exact ⟨WA_up a (fun z => n1 z.1) n9 n11 n12, WV_up b o, WSg_up c n28 n3, WC_up d n1 n9, WZ_up e o⟩
theorem capA_le {n cap : Nat} (h : capO cap) (hn : n < 40) : capA n cap ≤ 49 ∧ capO (capA n cap) ∧ (n ≤ cap → n + 1 ≤ capA n cap) := by
  unfold capO at *
  by_cases e : n = cap
  · have c1 : capA n cap = if cap = 0 then 10 else cap + cap / 2 := by unfold capA; rw [if_pos e]
    rcases h with h | h | h | h | h | h
    · subst h; have c2 : capA n 0 = 10 := c1; rw [c2]; omega
    · subst h; have c2 : capA n 10 = 15 := c1; rw [c2]; omega
    · subst h; have c2 : capA n 15 = 22 := c1; rw [c2]; omega
    · subst h; have c2 : capA n 22 = 33 := c1; rw [c2]; omega
    · subst h; have c2 : capA n 33 = 49 := c1; rw [c2]; omega
    · omega
  · have c1 : capA n cap = cap := by unfold capA; rw [if_neg e]
    rw [c1]
    omega
theorem capA5 {n cap : Nat} (h : cap = 0 ∨ 10 ≤ cap) (hc : cap ≤ 10 + 2 * n) : (capA n cap = 0 ∨ 10 ≤ capA n cap) ∧ capA n cap ≤ 10 + 2 * (n + 1) ∧ (n ≤ cap → n + 1 ≤ capA n cap) ∧ cap ≤ capA n cap := by
  unfold capA
  split
  · split <;> refine ⟨?_, ?_, ?_, ?_⟩ <;> omega
  · refine ⟨?_, ?_, ?_, ?_⟩ <;> omega

