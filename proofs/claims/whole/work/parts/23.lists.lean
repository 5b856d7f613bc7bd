/-! lists -/
def capA (n cap : Nat) : Nat := if n = cap then (if cap = 0 then 10 else cap + cap / 2) else cap
def addS (σ : St) (i : Nat) : St := up (up (up σ 11 26 i 1) 9 i 0 (capA (σ 1 i 2) (σ 9 i 0))) 1 i 2 (σ 1 i 2 + 1)
/-- a list is in order -/
def WLi (σ : St) (i : Nat) : Prop := V σ 1 i ∧ σ 12 1 i ≠ 0 ∧ (V σ 26 i ↔ σ 9 i 0 ≠ 0) ∧ σ 1 i 2 ≤ σ 9 i 0 ∧ σ 9 i 0 < 89000000 ∧ (σ 9 i 0 = 0 ∨ 10 ≤ σ 9 i 0)
section LST
variable {dE : Nat} {ad : Nat → Nat → Nat} {ρ μ : St} {h : Hp}
/-- a list has a new array -/
theorem RR.grow {h' : Hp} {i q m : Nat} {F : Nat → Option Nat} (r : RR dE ad ρ μ h) (w : V ρ 1 i) (z : hT h q = 0) (m0 : m ≠ 0) (cp : V ρ 26 i ↔ ρ 9 i 0 ≠ 0) (sz : ρ 1 i 2 ≤ ρ 9 i 0)
    (ht : ∀ a, hT h' a = if a = q then 26 else hT h a) (hl : ∀ a, hL h' a = if a = q then m else hL h a) (hi : ∀ a j, hI h' a j = if a = q then 0 else hI h a j) (hr : ∀ a j, hR h' a j = if a = ad 1 i ∧ j = 1 then some q else if a = q then F j else hR h a j) (hF : ∀ j, j < ρ 1 i 2 → F j = hR h (ad 26 i) j) :
    RR dE (au ad 26 i q) (up (up ρ 11 26 i 1) 9 i 0 m) μ h' := by
  have q1 : ad 1 i ≠ q := r.fresh z w
  have vv : ∀ {a b}, V (up (up ρ 11 26 i 1) 9 i 0 m) a b → (a = 26 ∧ b = i) ∨ (¬ (a = 26 ∧ b = i) ∧ V ρ a b ∧ au ad 26 i q a b = ad a b ∧ ad a b ≠ q) := by
    intro a b va
    by_cases e : a = 26 ∧ b = i
    · exact Or.inl e
    · refine Or.inr ⟨e, ?_⟩
      have v2 : V ρ a b := by
        unfold V at va
        rw [up_ne (fun z => by cases z.1), up_ne (fun z => e z.2)] at va
        exact va
      exact ⟨v2, au_ne e, r.fresh z v2⟩
  have vu : ∀ {a b}, V ρ a b → V (up (up ρ 11 26 i 1) 9 i 0 m) a b := by
    intro a b va
    unfold V
    rw [up_ne (fun z => by cases z.1)]
    unfold up
    split
    · decide
    · exact va
  have v26 : V (up (up ρ 11 26 i 1) 9 i 0 m) 26 i := by
    unfold V
    rw [up_ne (fun z => by cases z.1), up_eq]
    decide
  have e9 : ∀ a b, ¬ (a = 26 ∧ b = i) → lnL (up (up ρ 11 26 i 1) 9 i 0 m) a b = lnL ρ a b := by
    intro a b e
    have e9 : a = 26 → up (up ρ 11 26 i 1) 9 i 0 m 9 b 0 = ρ 9 b 0 := fun ea => by rw [up_ne (fun z => e ⟨ea, z.2.1⟩), up_ne (fun z => by cases z.1)]
    unfold lnL
    split
    all_goals first | rfl | exact e9 rfl
  have ec : ∀ a b k, ¬ (a = 1 ∧ b = i ∧ k = 1) → cr (up (up ρ 11 26 i 1) 9 i 0 m) a b k = cr ρ a b k := by
    intro a b k e
    have e1 : ∀ k, up (up ρ 11 26 i 1) 9 i 0 m 1 k 2 = ρ 1 k 2 := fun k => by rw [up_ne (fun z => by cases z.1), up_ne (fun z => by cases z.1)]
    have e12 : ∀ a k, up (up ρ 11 26 i 1) 9 i 0 m 12 a k = ρ 12 a k := fun a k => by rw [up_ne (fun z => by cases z.1), up_ne (fun z => by cases z.1)]
    have e25 : ∀ k, up (up ρ 11 26 i 1) 9 i 0 m 25 0 k = ρ 25 0 k := fun k => by rw [up_ne (fun z => by cases z.1), up_ne (fun z => by cases z.1)]
    have e24 : ∀ k q, up (up ρ 11 26 i 1) 9 i 0 m 24 k q = ρ 24 k q := fun k q => by rw [up_ne (fun z => by cases z.1), up_ne (fun z => by cases z.1)]
    have e2 : ∀ k, up (up ρ 11 26 i 1) 9 i 0 m 2 k 5 = ρ 2 k 5 := fun k => by rw [up_ne (fun z => by cases z.1), up_ne (fun z => by cases z.1)]
    have e26 : ∀ q, up (up ρ 11 26 i 1) 9 i 0 m 26 4 q = ρ 26 4 q := fun q => by rw [up_ne (fun z => by cases z.1), up_ne (fun z => by cases z.1)]
    by_cases a1 : a = 1
    · subst a1
      show (if _ then _ else _) = (if _ then _ else _)
      rw [e12]
      by_cases k1 : k = 1
      · have bi : ¬ b = i := fun z => e ⟨rfl, z, k1⟩
        have e9 : up (up ρ 11 26 i 1) 9 i 0 m 9 b 0 = ρ 9 b 0 := by rw [up_ne (fun z => bi z.2.1), up_ne (fun z => by cases z.1)]
        rw [e9]
      · rw [if_pos (Or.inr k1), if_pos (Or.inr k1)]
    · unfold cr elm
      split
      all_goals first | rfl | exact absurd rfl a1 | simp only [e1, e25, e24, e2, e26, e12]
  have ei : ∀ a b k, isI a k = true → up (up ρ 11 26 i 1) 9 i 0 m a b k = ρ a b k := fun a b k w => by rw [up_ne (fun z => by rw [z.1] at w; cases w), up_ne (fun z => by rw [z.1] at w; cases w)]
  have n27 : ¬ (27 = 26 ∧ 0 = i) := fun e => by cases e.1
  have am2 : ∀ x : Option (Nat × Nat), (∀ p, x = some p → V ρ p.1 p.2 ∧ ¬ (p.1 = 26 ∧ p.2 = i)) → am (au ad 26 i q) x = am ad x := fun x hx => am_au (fun p hp => (hx p hp).2)
  -- no told reference but the list's own goes to its array
  have nr : ∀ a b k p, cr ρ a b k = some (some p) → p.1 = 26 → a = 1 ∧ k = 1 ∧ p = (26, b) := by
    intro a b k p e ep
    unfold cr at e
    split at e
    all_goals first
      | (cases e; done)
      | (simp only [orl] at e
         split at e <;> (injection e with e; first | (cases e; done) | (injection e with e; rw [← e] at ep; cases ep)))
      | skip
    · by_cases c1 : ρ 12 7 k = 0
      · rw [if_pos c1] at e; cases e
      · rw [if_neg c1] at e
        by_cases c2 : k = 0
        · rw [if_pos c2] at e; injection e with e; injection e with e; rw [← e] at ep; cases ep
        · rw [if_neg c2] at e
          by_cases c3 : 1 ≤ k ∧ k ≤ 5
          · rw [if_pos c3] at e; injection e with e; injection e with e; rw [← e] at ep; cases ep
          · rw [if_neg c3] at e
            by_cases c4 : k = 6
            · rw [if_pos c4] at e; injection e with e; injection e with e; rw [← e] at ep; cases ep
            · rw [if_neg c4] at e; cases e
    · by_cases c1 : ρ 12 8 k = 0
      · rw [if_pos c1] at e; cases e
      · rw [if_neg c1] at e; injection e with e; injection e with e; rw [← e] at ep
        have ep : 30 + k = 26 := ep
        omega
    · by_cases c1 : ρ 12 23 k = 0
      · rw [if_pos c1] at e; cases e
      · rw [if_neg c1] at e; injection e with e; injection e with e; rw [← e] at ep; cases ep
    · by_cases c1 : ρ 12 1 b = 0 ∨ k ≠ 1
      · rw [if_pos c1] at e; cases e
      · rw [if_neg c1] at e; injection e with e; injection e with e
        have k1 : k = 1 := Classical.byContradiction (fun q => c1 (Or.inr q))
        by_cases c2 : ρ 9 b 0 = 0
        · rw [if_pos c2] at e; rw [← e] at ep; cases ep
        · rw [if_neg c2] at e; exact ⟨rfl, k1, e.symm⟩
    · by_cases c1 : k = 2
      · rw [if_pos c1] at e
        by_cases c2 : ρ 12 2 b = 0
        · rw [if_pos c2] at e; cases e
        · rw [if_neg c2] at e; injection e with e; injection e with e; rw [← e] at ep; cases ep
      · rw [if_neg c1] at e
        by_cases c2 : k = 5
        · rw [if_pos c2] at e
          unfold orl at e
          by_cases c3 : ρ 2 b 5 = 0
          · rw [if_pos c3] at e; injection e with e; cases e
          · rw [if_neg c3] at e; injection e with e; injection e with e; rw [← e] at ep; cases ep
        · rw [if_neg c2] at e; cases e
    · by_cases c1 : ρ 12 3 b = 0 ∨ k ≠ 1
      · rw [if_pos c1] at e; cases e
      · rw [if_neg c1] at e; injection e with e; injection e with e; rw [← e] at ep; cases ep
    · by_cases c1 : k < ρ 1 b 2
      · rw [if_pos c1] at e; injection e with e; injection e with e
        rw [← e] at ep
        unfold elm at ep
        repeat' split at ep
        all_goals cases ep
      · rw [if_neg c1] at e; cases e
  refine ⟨fun a b c d v1 v2 e => ?_, fun a b v1 => ?_, fun a b k v1 w1 => ?_, fun a b k x v1 w1 => ?_, fun k v1 w1 => ?_, fun a k v1 w1 n56 zz => ?_, vu r.vE, (au_ne n27).trans r.eD⟩
  · rcases vv v1 with ⟨rfl, rfl⟩ | ⟨x1, x2, x3, x4⟩
    · rcases vv v2 with ⟨rfl, rfl⟩ | ⟨y1, y2, y3, y4⟩
      · exact ⟨rfl, rfl⟩
      · rw [au_eq, y3] at e
        exact absurd e.symm y4
    · rcases vv v2 with ⟨rfl, rfl⟩ | ⟨y1, y2, y3, y4⟩
      · rw [au_eq, x3] at e
        exact absurd e x4
      · rw [x3, y3] at e
        exact r.inj x2 y2 e
  · rcases vv v1 with ⟨rfl, rfl⟩ | ⟨x1, x2, x3, x4⟩
    · rw [au_eq, ht, hl, if_pos rfl, if_pos rfl]
      refine ⟨rfl, by decide, ?_⟩
      show m = up (up ρ 11 26 b 1) 9 b 0 m 9 b 0
      rw [up_eq]
    · rw [x3, ht, hl, if_neg x4, if_neg x4, e9 a b x1]
      exact r.2.1 a b x2
  · rw [ei a b k w1]
    rcases vv v1 with ⟨rfl, rfl⟩ | ⟨x1, x2, x3, x4⟩
    · cases w1
    · rw [x3, hi, if_neg x4]
      exact r.int x2 w1
  · by_cases e : a = 1 ∧ b = i ∧ k = 1
    · obtain ⟨rfl, rfl, rfl⟩ := e
      have w1 : (if up (up ρ 11 26 b 1) 9 b 0 m 12 1 b = 0 ∨ 1 ≠ 1 then none else some (some (if up (up ρ 11 26 b 1) 9 b 0 m 9 b 0 = 0 then (27, 0) else (26, b)))) = some x := w1
      by_cases f : up (up ρ 11 26 b 1) 9 b 0 m 12 1 b = 0
      · rw [if_pos (Or.inl f)] at w1
        cases w1
      · rw [if_neg (fun z => z.elim f (fun z => z rfl)), up_eq, if_neg m0] at w1
        injection w1 with w1
        subst w1
        refine ⟨fun p hp => by injection hp with hp; subst hp; exact v26, ?_⟩
        rw [au_ne (fun z => by cases z.1), hr, if_pos ⟨rfl, rfl⟩]
        show some q = some (au ad 26 b q 26 b)
        rw [au_eq]
    · rw [ec a b k e] at w1
      rcases vv v1 with ⟨rfl, rfl⟩ | ⟨x1, x2, x3, x4⟩
      · rw [au_eq, hr, if_neg (fun z => q1 z.1.symm), if_pos rfl]
        by_cases hk : k < ρ 1 b 2
        · have vb : V ρ 26 b := cp.mpr (by omega)
          obtain ⟨f1, f2⟩ := r.2.2.2.1 26 b k x vb w1
          refine ⟨fun p hp => vu (f1 p hp), ?_⟩
          rw [hF k hk, f2, am_au]
          rintro p hp ⟨p1, p2⟩
          subst hp
          cases (nr 26 b k p w1 p1).1
        · have w1 : (if k < ρ 1 b 2 then some (some (elm ρ b k)) else none) = some x := w1
          rw [if_neg hk] at w1
          cases w1
      · obtain ⟨f1, f2⟩ := r.2.2.2.1 a b k x x2 w1
        refine ⟨fun p hp => vu (f1 p hp), ?_⟩
        rw [x3, hr, if_neg, if_neg x4, f2, am_au]
        · rintro p hp ⟨p1, p2⟩
          subst hp
          obtain ⟨n1, n2, n3⟩ := nr a b k p w1 p1
          rw [n3] at p2
          exact e ⟨n1, p2, n2⟩
        · rintro ⟨z1, z2⟩
          obtain ⟨y1, y2⟩ := r.inj x2 w z1
          exact e ⟨y1, y2, z2⟩
  · rcases vv v1 with ⟨x1, x2⟩ | ⟨x1, x2, x3, x4⟩
    · cases x1
    · rw [x3, hi, if_neg x4]
      exact r.num x2 w1
  · rcases vv v1 with ⟨x1, x2⟩ | ⟨x1, x2, x3, x4⟩
    · subst x1; cases w1
    · rw [x3, hi, if_neg x4]
      exact r.arr x2 w1 n56 zz
end LST
