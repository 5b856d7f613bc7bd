/-! new things; the Model's writes; named writes of the line -/
section RRM
variable {dE : Nat} {ad : Nat → Nat → Nat} {ρ : St} {μ : Mu} {h : Hp}
theorem am_au {ad : Nat → Nat → Nat} {t i q : Nat} {x : Option (Nat × Nat)} (n : ∀ p, x = some p → ¬ (p.1 = t ∧ p.2 = i)) : am (au ad t i q) x = am ad x := by
  cases x with
  | none => rfl
  | some p =>
    show some (au ad t i q p.1 p.2) = some (ad p.1 p.2)
    unfold au
    rw [if_neg (n p rfl)]
theorem au_eq {ad : Nat → Nat → Nat} {t i q : Nat} : au ad t i q t i = q := by simp [au]
theorem au_ne {ad : Nat → Nat → Nat} {t i q t' i' : Nat} (n : ¬ (t' = t ∧ i' = i)) : au ad t i q t' i' = ad t' i' := by simp [au, n]
/-- a new thing -/
theorem RR.new (r : RR dE ad ρ μ h) {t i q n : Nat} (z : hT h q = 0) (nv : ¬ V ρ t i) (t0 : tgL t ≠ 0) (hn : n = lnL ρ t i) (hi : ∀ j, isI t j = true → ρ t i j = 0) (hc : ∀ j x, cr ρ t i j = some x → x = none) (n8 : t = 8 → ∀ j, isM j = true → ms μ j = 0) (hm : isMA t = true → t ≠ 56 → ∀ n, n < lnM t → mv μ t n = 0) (h22 : t = 22 → i = 0 → ρ 22 0 0 = 0) : RR dE (au ad t i q) (up ρ 11 t i 1) μ (sN h q (tgL t) n) := by
  have vv : ∀ {a b}, V (up ρ 11 t i 1) a b → (a = t ∧ b = i) ∨ (¬ (a = t ∧ b = i) ∧ V ρ a b ∧ au ad t i q a b = ad a b ∧ ad a b ≠ q) := by
    intro a b va
    by_cases e : a = t ∧ b = i
    · exact Or.inl e
    · refine Or.inr ⟨e, ?_⟩
      have v2 : V ρ a b := by
        unfold V at va
        rw [up_ne (fun z => e z.2)] at va
        exact va
      exact ⟨v2, au_ne e, r.fresh z v2⟩
  have vu : ∀ {a b}, V ρ a b → V (up ρ 11 t i 1) a b := by
    intro a b va
    unfold V up
    split
    · decide
    · exact va
  have e9 : ∀ a b, lnL (up ρ 11 t i 1) a b = lnL ρ a b := lnL_up (by decide)
  have ec : ∀ a b k, cr (up ρ 11 t i 1) a b k = cr ρ a b k := by
    intro a b k
    have e1 : ∀ k, up ρ 11 t i 1 1 k 2 = ρ 1 k 2 := fun k => up_ne (fun z => by cases z.1)
    have e9 : ∀ k, up ρ 11 t i 1 9 k 0 = ρ 9 k 0 := fun k => up_ne (fun z => by cases z.1)
    have e12 : ∀ a k, up ρ 11 t i 1 12 a k = ρ 12 a k := fun a k => up_ne (fun z => by cases z.1)
    have e25 : ∀ a k, up ρ 11 t i 1 25 a k = ρ 25 a k := fun a k => up_ne (fun z => by cases z.1)
    have e24 : ∀ k q, up ρ 11 t i 1 24 k q = ρ 24 k q := fun k q => up_ne (fun z => by cases z.1)
    have e2 : ∀ k, up ρ 11 t i 1 2 k 5 = ρ 2 k 5 := fun k => up_ne (fun z => by cases z.1)
    have e26 : ∀ q, up ρ 11 t i 1 26 4 q = ρ 26 4 q := fun q => up_ne (fun z => by cases z.1)
    unfold cr elm
    simp only [e1, e9, e25, e24, e2, e26, e12]
  have ei : ∀ a b k, isI a k = true → up ρ 11 t i 1 a b k = ρ a b k := fun a b k w => up_ne (fun z => by rw [z.1] at w; cases w)
  have n27 : ¬ (27 = t ∧ 0 = i) := fun e => nv (by rw [← e.1, ← e.2]; exact r.vE)
  refine ⟨fun a b c d v1 v2 e => ?_, fun a b v1 => ?_, fun a b k v1 w1 => ?_, fun a b k x v1 w1 => ?_, vu r.vE, (au_ne n27).trans r.eD, r.frm.go (fun a ha f t2 i2 v2 => ?_) (fun a ha f => ?_)⟩
  · rcases vv v1 with ⟨rfl, rfl⟩ | ⟨x1, x2, x3, x4⟩
    · rcases vv v2 with ⟨rfl, rfl⟩ | ⟨y1, y2, y3, y4⟩
      · exact ⟨rfl, rfl⟩
      · rw [au_eq, y3] at e
        exact absurd e.symm y4
    · rcases vv v2 with ⟨rfl, rfl⟩ | ⟨y1, y2, y3, y4⟩
      · rw [au_eq, x3] at e
        exact absurd e x4
      · rw [x3, y3] at e
        exact r.inj x2 y2 e
  · rw [e9]
    rcases vv v1 with ⟨rfl, rfl⟩ | ⟨x1, x2, x3, x4⟩
    · rw [au_eq, hT_sN, hL_sN, if_pos rfl, if_pos rfl]
      exact ⟨rfl, t0, hn⟩
    · rw [x3, hT_sN, hL_sN, if_neg x4, if_neg x4]
      exact r.2.1 a b x2
  · rw [ei a b k w1]
    rcases vv v1 with ⟨rfl, rfl⟩ | ⟨x1, x2, x3, x4⟩
    · rw [au_eq, hI_sN, if_pos rfl, hi k w1, nI_0]
    · rw [x3, hI_sN, if_neg x4]
      exact r.int x2 w1
  · rw [ec] at w1
    rcases vv v1 with ⟨rfl, rfl⟩ | ⟨x1, x2, x3, x4⟩
    · have := hc k x w1
      subst this
      refine ⟨fun p hp => (by cases hp), ?_⟩
      rw [au_eq, hR_sN, if_pos rfl]
      rfl
    · obtain ⟨f1, f2⟩ := r.2.2.2.1 a b k x x2 w1
      refine ⟨fun p hp => vu (f1 p hp), ?_⟩
      rw [x3, hR_sN, if_neg x4, f2, am_au]
      rintro p hp ⟨p1, p2⟩
      have := f1 p hp
      rw [p1, p2] at this
      exact nv this
  · rcases vv v2 with ⟨rfl, rfl⟩ | ⟨x1, x2, x3, x4⟩
    · rw [au_eq]
      exact fun e => ha (by rw [← e]; exact z)
    · rw [x3]
      exact f _ _ x2
  · have q9 : a ≠ q := fun e => ha (by rw [e]; exact z)
    exact ⟨by rw [hT_sN, if_neg q9], by rw [hL_sN, if_neg q9], fun j => by rw [hI_sN, if_neg q9], fun j => by rw [hR_sN, if_neg q9], fun j => by rw [hJ_sN, if_neg q9]⟩
end RRM
