/-! new things; the Model's writes; named writes of the line -/
section RRM
variable {dE : Nat} {ad : Nat → Nat → Nat} {ρ μ : St} {h : Hp}
theorem am_au {ad : Nat → Nat → Nat} {t i q : Nat} {x : Option (Nat × Nat)} (n : ∀ p, x = some p → ¬ (p.1 = t ∧ p.2 = i)) : am (au ad t i q) x = am ad x := by
  cases x with
  | none => rfl
  | some p =>
    show some (au ad t i q p.1 p.2) = some (ad p.1 p.2)
    unfold au
    rw [if_neg (n p rfl)]
theorem au_eq {ad : Nat → Nat → Nat} {t i q : Nat} : au ad t i q t i = q := by simp [au]
theorem au_ne {ad : Nat → Nat → Nat} {t i q t' i' : Nat} (n : ¬ (t' = t ∧ i' = i)) : au ad t i q t' i' = ad t' i' := by simp [au, n]
/-- a new thing -/
theorem RR.new (r : RR dE ad ρ μ h) {t i q n : Nat} (z : hT h q = 0) (nv : ¬ V ρ t i) (t0 : tgL t ≠ 0) (hn : n = lnL ρ t i) (hi : ∀ j, isI t j = true → ρ t i j = 0) (hc : ∀ j x, cr ρ t i j = some x → x = none) (n8 : t = 8 → ∀ j, isM j = true → ms μ j = 0) (hm : isMA t = true → t ≠ 56 → ∀ n, n < lnM t → mv μ t n = 0) (h22 : t = 22 → i = 0 → ρ 22 0 0 = 0) : RR dE (au ad t i q) (up ρ 11 t i 1) μ (sN h q (tgL t) n) := by
  have vv : ∀ {a b}, V (up ρ 11 t i 1) a b → (a = t ∧ b = i) ∨ (¬ (a = t ∧ b = i) ∧ V ρ a b ∧ au ad t i q a b = ad a b ∧ ad a b ≠ q) := by
    intro a b va
    by_cases e : a = t ∧ b = i
    · exact Or.inl e
    · refine Or.inr ⟨e, ?_⟩
      have v2 : V ρ a b := by
        unfold V at va
        rw [up_ne (fun z => e z.2)] at va
        exact va
      exact ⟨v2, au_ne e, r.fresh z v2⟩
  have vu : ∀ {a b}, V ρ a b → V (up ρ 11 t i 1) a b := by
    intro a b va
    unfold V up
    split
    · decide
    · exact va
  have e9 : ∀ a b, lnL (up ρ 11 t i 1) a b = lnL ρ a b := lnL_up (by decide)
  have ec : ∀ a b k, cr (up ρ 11 t i 1) a b k = cr ρ a b k := by
    intro a b k
    have e1 : ∀ k, up ρ 11 t i 1 1 k 2 = ρ 1 k 2 := fun k => up_ne (fun z => by cases z.1)
    have e9 : ∀ k, up ρ 11 t i 1 9 k 0 = ρ 9 k 0 := fun k => up_ne (fun z => by cases z.1)
    have e12 : ∀ a k, up ρ 11 t i 1 12 a k = ρ 12 a k := fun a k => up_ne (fun z => by cases z.1)
    have e25 : ∀ a k, up ρ 11 t i 1 25 a k = ρ 25 a k := fun a k => up_ne (fun z => by cases z.1)
    have e24 : ∀ k q, up ρ 11 t i 1 24 k q = ρ 24 k q := fun k q => up_ne (fun z => by cases z.1)
    have e2 : ∀ k, up ρ 11 t i 1 2 k 5 = ρ 2 k 5 := fun k => up_ne (fun z => by cases z.1)
    have e26 : ∀ q, up ρ 11 t i 1 26 4 q = ρ 26 4 q := fun q => up_ne (fun z => by cases z.1)
    unfold cr elm
    simp only [e1, e9, e25, e24, e2, e26, e12]
  have ei : ∀ a b k, isI a k = true → up ρ 11 t i 1 a b k = ρ a b k := fun a b k w => up_ne (fun z => by rw [z.1] at w; cases w)
  have n27 : ¬ (27 = t ∧ 0 = i) := fun e => nv (by rw [← e.1, ← e.2]; exact r.vE)
  refine ⟨fun a b c d v1 v2 e => ?_, fun a b v1 => ?_, fun a b k v1 w1 => ?_, fun a b k x v1 w1 => ?_, fun k v1 w1 => ?_, fun a k v1 w1 n56 zz => ?_, vu r.vE, (au_ne n27).trans r.eD, fun v1 => ?_⟩
  · rcases vv v1 with ⟨rfl, rfl⟩ | ⟨x1, x2, x3, x4⟩
    · rcases vv v2 with ⟨rfl, rfl⟩ | ⟨y1, y2, y3, y4⟩
      · exact ⟨rfl, rfl⟩
      · rw [au_eq, y3] at e
        exact absurd e.symm y4
    · rcases vv v2 with ⟨rfl, rfl⟩ | ⟨y1, y2, y3, y4⟩
      · rw [au_eq, x3] at e
        exact absurd e x4
      · rw [x3, y3] at e
        exact r.inj x2 y2 e
  · rw [e9]
    rcases vv v1 with ⟨rfl, rfl⟩ | ⟨x1, x2, x3, x4⟩
    · rw [au_eq, hT_sN, hL_sN, if_pos rfl, if_pos rfl]
      exact ⟨rfl, t0, hn⟩
    · rw [x3, hT_sN, hL_sN, if_neg x4, if_neg x4]
      exact r.2.1 a b x2
  · rw [ei a b k w1]
    rcases vv v1 with ⟨rfl, rfl⟩ | ⟨x1, x2, x3, x4⟩
    · rw [au_eq, hI_sN, if_pos rfl, hi k w1, nI_0]
    · rw [x3, hI_sN, if_neg x4]
      exact r.int x2 w1
  · rw [ec] at w1
    rcases vv v1 with ⟨rfl, rfl⟩ | ⟨x1, x2, x3, x4⟩
    · have := hc k x w1
      subst this
      refine ⟨fun p hp => (by cases hp), ?_⟩
      rw [au_eq, hR_sN, if_pos rfl]
      rfl
    · obtain ⟨f1, f2⟩ := r.2.2.2.1 a b k x x2 w1
      refine ⟨fun p hp => vu (f1 p hp), ?_⟩
      rw [x3, hR_sN, if_neg x4, f2, am_au]
      rintro p hp ⟨p1, p2⟩
      have := f1 p hp
      rw [p1, p2] at this
      exact nv this
  · rcases vv v1 with ⟨rfl, rfl⟩ | ⟨x1, x2, x3, x4⟩
    · rw [au_eq, hI_sN, if_pos rfl, n8 rfl k w1, nI_0]
    · rw [x3, hI_sN, if_neg x4]
      exact r.num x2 w1
  · rcases vv v1 with ⟨rfl, rfl⟩ | ⟨x1, x2, x3, x4⟩
    · rw [au_eq, hI_sN, if_pos rfl, hm w1 n56 k zz, nI_0]
    · rw [x3, hI_sN, if_neg x4]
      exact r.arr x2 w1 n56 zz
  · have e22 : up ρ 11 t i 1 22 0 0 = ρ 22 0 0 := up_ne (fun z => by cases z.1)
    rw [e22]
    rcases vv v1 with ⟨e1, e2⟩ | ⟨x1, x2, x3, x4⟩
    · subst e1 e2
      rw [h22 rfl rfl, au_eq, hJ_sN, if_pos rfl]
      rfl
    · rw [x3, hJ_sN, if_neg x4]
      exact r.lng x2
/-- the Model's heap part changes alone -/
theorem RR.heapM {h' : Hp} {μ' : St} (r : RR dE ad ρ μ h) (ht : ∀ a, hT h' a = hT h a) (hL' : ∀ a, hL h' a = hL h a) (hr : ∀ a j, hR h' a j = hR h a j) (hi : ∀ t i j, V ρ t i → isI t j = true → hI h' (ad t i) j = hI h (ad t i) j)
    (h8 : ∀ j, V ρ 8 0 → isM j = true → hI h' (ad 8 0) j = nI (ms μ' j)) (hm : ∀ t n, V ρ t 0 → isMA t = true → t ≠ 56 → n < lnM t → hI h' (ad t 0) n = nI (mv μ' t n)) (hj : ∀ a j, hJ h' a j = hJ h a j) : RR dE ad ρ μ' h' := by
  refine ⟨r.1, fun a b v1 => ?_, fun a b k v1 w1 => ?_, fun a b k x v1 w1 => ?_, h8, hm, r.vE, r.eD, fun v1 => by rw [hj]; exact r.lng v1⟩
  · rw [ht, hL']
    exact r.2.1 a b v1
  · rw [hi a b k v1 w1]
    exact r.int v1 w1
  · rw [hr]
    exact r.2.2.2.1 a b k x v1 w1
theorem RR.congM {μ' : St} (r : RR dE ad ρ μ h) (h8 : ∀ j, isM j = true → ms μ' j = ms μ j) (hm : ∀ t n, isMA t = true → t ≠ 56 → n < lnM t → mv μ' t n = mv μ t n) : RR dE ad ρ μ' h :=
  r.heapM (fun _ => rfl) (fun _ => rfl) (fun _ _ => rfl) (fun _ _ _ _ _ => rfl) (fun j v w => by rw [h8 j w]; exact r.num v w) (fun t n v w n56 z => by rw [hm t n w n56 z]; exact r.arr v w n56 z) (fun _ _ => rfl)
theorem ma_ne8 {t : Nat} (w : isMA t = true) : t ≠ 8 := fun e => by rw [e] at w; cases w
/-- a slot of no array of the Model -/
theorem mv_up {μ : St} {a b c v t n : Nat} (hn : (sl t n) ≠ (a, b, c)) : mv (up μ a b c v) t n = mv μ t n := by
  unfold mv
  refine up_ne (fun z => hn ?_)
  obtain ⟨z1, z2, z3⟩ := z
  rw [← z1, ← z2, ← z3]
theorem ms_up {μ : St} {a b c v j : Nat} (hn : (sm j) ≠ (a, b, c)) : ms (up μ a b c v) j = ms μ j := by
  unfold ms
  refine up_ne (fun z => hn ?_)
  obtain ⟨z1, z2, z3⟩ := z
  rw [← z1, ← z2, ← z3]
/-- a number of the Model that isn't told -/
theorem RR.rawM (r : RR dE ad ρ μ h) (w : V ρ 8 0) {j : Nat} {x : Int32} (n : isM j = false) : RR dE ad ρ μ (sI h (ad 8 0) j x) := by
  refine r.heapM (fun _ => rfl) (fun _ => rfl) (fun _ _ => rfl) (fun a b k va wa => ?_) (fun k va wa => ?_) (fun a k va wa n56 z => ?_) (fun _ _ => rfl)
  · rw [hI_sI, if_neg]
    rintro ⟨z1, z2⟩
    exact (isI_n8 wa).1 (r.inj va w z1).1
  · rw [hI_sI, if_neg]
    · exact r.num va wa
    · rintro ⟨z1, z2⟩
      rw [z2, n] at wa
      cases wa
  · rw [hI_sI, if_neg]
    · exact r.arr va wa n56 z
    · rintro ⟨z1, z2⟩
      exact ma_ne8 wa (r.inj va w z1).1
/-- the contents' row -/
theorem RR.rawC (r : RR dE ad ρ μ h) (w : V ρ 56 0) {j : Nat} {x : Int32} : RR dE ad ρ μ (sI h (ad 56 0) j x) := by
  refine r.heapM (fun _ => rfl) (fun _ => rfl) (fun _ _ => rfl) (fun a b k va wa => ?_) (fun k va wa => ?_) (fun a k va wa n56 z => ?_) (fun _ _ => rfl)
  · rw [hI_sI, if_neg]
    rintro ⟨z1, z2⟩
    rw [(r.inj va w z1).1] at wa
    cases wa
  · rw [hI_sI, if_neg]
    · exact r.num va wa
    · rintro ⟨z1, z2⟩
      cases (r.inj va w z1).1
  · rw [hI_sI, if_neg]
    · exact r.arr va wa n56 z
    · rintro ⟨z1, z2⟩
      exact n56 (r.inj va w z1).1
/-- a number of the Model -/
theorem RR.setM (r : RR dE ad ρ μ h) (w : V ρ 8 0) {j v : Nat} {a b c : Nat} (ej : sm j = (a, b, c)) (hs : ∀ k, isM k = true → sm k = (a, b, c) → k = j) (hl : ∀ t n, isMA t = true → sl t n ≠ (a, b, c)) : RR dE ad ρ (up μ a b c v) (sI h (ad 8 0) j (nI v)) := by
  refine r.heapM (fun _ => rfl) (fun _ => rfl) (fun _ _ => rfl) (fun a b k va wa => ?_) (fun k va wa => ?_) (fun t k va wa n56 z => ?_) (fun _ _ => rfl)
  · rw [hI_sI, if_neg]
    rintro ⟨z1, z2⟩
    exact (isI_n8 wa).1 (r.inj va w z1).1
  · rw [hI_sI]
    by_cases e : k = j
    · subst e
      rw [if_pos ⟨rfl, rfl⟩]
      unfold ms
      rw [ej]
      show nI v = nI (up μ a b c v a b c)
      rw [up_eq]
    · rw [if_neg (fun z => e z.2), ms_up (fun z => e (hs k wa z))]
      exact r.num va wa
  · rw [hI_sI, if_neg]
    · rw [mv_up (hl t k wa)]
      exact r.arr va wa n56 z
    · rintro ⟨z1, z2⟩
      exact ma_ne8 wa (r.inj va w z1).1
/-- a place in an array of the Model -/
theorem RR.setA (r : RR dE ad ρ μ h) {t j v : Nat} (w : V ρ t 0) (wm : isMA t = true) {a b c : Nat} (ej : sl t j = (a, b, c)) (hs : ∀ t' k, isMA t' = true → k < lnM t' → sl t' k = (a, b, c) → t' = t ∧ k = j) (hl : ∀ k, isM k = true → sm k ≠ (a, b, c)) : RR dE ad ρ (up μ a b c v) (sI h (ad t 0) j (nI v)) := by
  refine r.heapM (fun _ => rfl) (fun _ => rfl) (fun _ _ => rfl) (fun a b k va wa => ?_) (fun k va wa => ?_) (fun t' k va wa n56 z => ?_) (fun _ _ => rfl)
  · rw [hI_sI, if_neg]
    rintro ⟨z1, z2⟩
    rw [(r.inj va w z1).1, isI_ma wm] at wa
    cases wa
  · rw [hI_sI, if_neg]
    · rw [ms_up (hl k wa)]
      exact r.num va wa
    · rintro ⟨z1, z2⟩
      exact ma_ne8 wm (r.inj va w z1).1.symm
  · rw [hI_sI]
    by_cases e : t' = t ∧ k = j
    · obtain ⟨rfl, rfl⟩ := e
      rw [if_pos ⟨rfl, rfl⟩]
      unfold mv
      rw [ej]
      show nI v = nI (up μ a b c v a b c)
      rw [up_eq]
    · rw [if_neg, mv_up (fun z9 => e (hs t' k wa z z9))]
      · exact r.arr va wa n56 z
      · rintro ⟨z1, z2⟩
        exact e ⟨(r.inj va w z1).1, z2⟩
theorem ma_cases {t : Nat} (w : isMA t = true) : t = 31 ∨ t = 32 ∨ t = 33 ∨ t = 34 ∨ t = 36 ∨ t = 37 ∨ t = 38 ∨ t = 39 ∨ t = 41 ∨ t = 42 ∨ t = 43 ∨ t = 44 ∨ t = 45 ∨ t = 46 ∨ t = 47 ∨ t = 48 ∨ t = 49 ∨ t = 50 ∨ t = 54 ∨ t = 55 ∨ t = 56 := by
  unfold isMA at w
  split at w <;> first | omega | cases w
theorem sl_ne {t n a b c : Nat} (w : isMA t = true) (na : a ≠ 4 ∧ a ≠ 5 ∧ a ≠ 2 ∧ a ≠ 24 ∧ a ≠ 25 ∧ a ≠ 27 ∧ a ≠ 19 ∧ a ≠ 28 ∧ a ≠ 99) : sl t n ≠ (a, b, c) := by
  intro e
  have e1 := congrArg Prod.fst e
  obtain ⟨h1, h2, h3, h4, h5, h6, h7, h8, h9⟩ := na
  rcases ma_cases w with rfl | rfl | rfl | rfl | rfl | rfl | rfl | rfl | rfl | rfl | rfl | rfl | rfl | rfl | rfl | rfl | rfl | rfl | rfl | rfl | rfl
  · exact h1 e1.symm
  · exact h1 e1.symm
  · exact h1 e1.symm
  · exact h1 e1.symm
  · exact h2 e1.symm
  · exact h2 e1.symm
  · exact h2 e1.symm
  · exact h2 e1.symm
  · exact h3 e1.symm
  · exact h3 e1.symm
  · exact h3 e1.symm
  · exact h4 e1.symm
  · exact h3 e1.symm
  · exact h3 e1.symm
  · exact h3 e1.symm
  · exact h3 e1.symm
  · exact h5 e1.symm
  · exact h6 e1.symm
  · exact h7 e1.symm
  · exact h8 e1.symm
  · exact h9 e1.symm
theorem sm_ne {j a b c : Nat} (w : isM j = true) (na : a ≠ 1 ∧ a ≠ 10 ∧ a ≠ 7 ∧ a ≠ 98) : sm j ≠ (a, b, c) := by
  intro e
  unfold sm at e
  obtain ⟨h1, h2, h3, h4⟩ := na
  split at e <;> (have e1 := congrArg Prod.fst e; simp only at e1; first | omega | (simp_all [isM]; done))
end RRM
