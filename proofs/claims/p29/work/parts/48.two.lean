/-! two lines in one heap -/
def Fo (ad : Nat → Nat → Nat) (ρ : St) : Nat → Prop := fun a => ∃ t i, V ρ t i ∧ ¬ (t = 27 ∧ i = 0) ∧ ad t i = a
section TW
variable {dE : Nat} {ad1 ad2 ad3 : Nat → Nat → Nat} {ρ1 ρ2 ρ3 : St} {μ : Mu} {h h' : Hp}
theorem RR.swap (r : RR dE ad1 ρ1 (Fo ad2 ρ2, h) h') (r2 : RR dE ad2 ρ2 μ h) : RR dE ad2 ρ2 (Fo ad1 ρ1, h') h' := by
  have s : ∀ t i, V ρ2 t i → ¬ (t = 27 ∧ i = 0) → sameAt h h' (ad2 t i) := fun t i v n => (r.frm _ ⟨t, i, v, n, rfl⟩).2.2
  have a27 : ad2 27 0 = ad1 27 0 := r2.eD.trans r.eD.symm
  refine ⟨r2.1, fun t i v => ?_, fun t i j v w => ?_, fun t i j x v w => ?_, r2.vE, r2.eD, fun a ha => ?_⟩
  · by_cases n : t = 27 ∧ i = 0
    · obtain ⟨rfl, rfl⟩ := n
      rw [a27]
      exact ⟨r.tag r.vE, r.tg0 r.vE, r.len r.vE⟩
    · obtain ⟨s1, s2, -⟩ := s t i v n
      rw [s1, s2]
      exact r2.2.1 t i v
  · have n : ¬ (t = 27 ∧ i = 0) := fun e => by rw [e.1] at w; cases w
    rw [(s t i v n).2.2.1]
    exact r2.int v w
  · have n : ¬ (t = 27 ∧ i = 0) := fun e => by rw [e.1] at w; cases w
    have q := r2.2.2.2.1 t i j x v w
    exact ⟨q.1, by rw [(s t i v n).2.2.2.1]; exact q.2⟩
  · obtain ⟨t, i, v, n, rfl⟩ := ha
    refine ⟨by rw [r.tag v]; exact r.tg0 v, fun t' i' v' e => ?_, sameAt.rf⟩
    by_cases n' : t' = 27 ∧ i' = 0
    · obtain ⟨rfl, rfl⟩ := n'
      rw [a27] at e
      obtain ⟨e1, e2⟩ := r.inj r.vE v e
      exact n ⟨e1.symm, e2.symm⟩
    · exact (r.frm _ ⟨t', i', v', n', e⟩).2.1 t i v rfl
theorem RR.self {F : Nat → Prop} {h0 : Hp} (r : RR dE ad1 ρ1 (F, h0) h') : RR dE ad1 ρ1 (F, h') h' := ⟨r.1, r.2.1, r.2.2.1, r.2.2.2.1, r.vE, r.eD, fun a ha => ⟨(r.frm a ha).1, (r.frm a ha).2.1, sameAt.rf⟩⟩
/-- both lines -/
def BB (dE : Nat) (ad1 : Nat → Nat → Nat) (ρ1 : St) (ad2 : Nat → Nat → Nat) (ρ2 : St) (h : Hp) : Prop := RR dE ad1 ρ1 (Fo ad2 ρ2, h) h ∧ RR dE ad2 ρ2 (Fo ad1 ρ1, h) h
theorem BB.sym (b : BB dE ad1 ρ1 ad2 ρ2 h) : BB dE ad2 ρ2 ad1 ρ1 h := ⟨b.2, b.1⟩
theorem BB.step (b : BB dE ad1 ρ1 ad2 ρ2 h) (r : RR dE ad3 ρ3 (Fo ad2 ρ2, h) h') : BB dE ad3 ρ3 ad2 ρ2 h' := ⟨r.self, r.swap b.2⟩
/-- a second line beside the first -/
theorem BB_new (r : RR dE ad1 ρ1 μ h) (r2 : RR dE ad2 ρ2 (Fo ad1 ρ1, h) h') : BB dE ad1 ρ1 ad2 ρ2 h' := ⟨r2.swap r, r2.self⟩
theorem RR_1 (r : RR dE ad1 ρ1 μ h) : RR dE (fun _ _ => dE) (iniP [(27, 0)] [] 0) (Fo ad1 ρ1, h) h := by
  refine RR_0 (by rw [← r.eD]; exact r.tag r.vE) (by rw [← r.eD]; exact r.len r.vE) (fun a ha => ?_)
  obtain ⟨t, i, v, n, rfl⟩ := ha
  refine ⟨by rw [r.tag v]; exact r.tg0 v, fun e => ?_⟩
  rw [← r.eD] at e
  obtain ⟨e1, e2⟩ := r.inj r.vE v e
  exact n ⟨e1.symm, e2.symm⟩
end TW
