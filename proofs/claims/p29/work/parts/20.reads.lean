/-! ints as naturals; what there is; what is read -/
theorem l0 : (0 : Int32) = nI 0 := rfl
theorem l1 : (1 : Int32) = nI 1 := rfl
theorem l2 : (2 : Int32) = nI 2 := rfl
theorem l3 : (3 : Int32) = nI 3 := rfl
theorem l4 : (4 : Int32) = nI 4 := rfl
theorem l5 : (5 : Int32) = nI 5 := rfl
theorem l6 : (6 : Int32) = nI 6 := rfl
theorem l7 : (7 : Int32) = nI 7 := rfl
theorem l8 : (8 : Int32) = nI 8 := rfl
theorem l10 : (10 : Int32) = nI 10 := rfl
theorem l20 : (20 : Int32) = nI 20 := rfl
theorem l30 : (30 : Int32) = nI 30 := rfl
theorem l40 : (40 : Int32) = nI 40 := rfl
theorem l50 : (50 : Int32) = nI 50 := rfl
theorem l99 : (99 : Int32) = nI 99 := rfl
theorem l255 : (255 : Int32) = nI 255 := rfl
theorem lm1 : (-1 : Int32) = nI NN := by decide
theorem ex_nI {k : Nat} {P : Nat → Prop} (hk : k < 2147483648) : (∃ j : Nat, nI k = nI j ∧ j < 2147483648 ∧ P j) ↔ P k := by
  constructor
  · rintro ⟨j, e, hj, hp⟩
    have := (nI_eq (by omega) (by omega)).mp e
    subst this
    exact hp
  · intro hp
    exact ⟨k, rfl, hk, hp⟩
theorem nI_mul (a b : Nat) : nI a * nI b = nI (a * b) := (Int32.ofNat_mul a b).symm
theorem nI_subN {a b : Nat} (hab : b ≤ a) : nI a - nI b = nI (a - b) := (Int32.ofNat_sub a b hab).symm
theorem nI_down (a : Nat) : nI (a + 1) + nI NN = nI a := by
  have h : nI (a + 1) = nI a + 1 := nI_succ a
  rw [h, ← lm1, Int32.add_assoc]
  have : (1 : Int32) + -1 = 0 := by decide
  rw [this, Int32.add_zero]
theorem nI_eqNN {a : Nat} (ha : a < 2 ^ 31) : (nI a = nI NN) ↔ False := by
  constructor
  · intro e
    have h := nI_pos ha
    rw [e] at h
    exact h (by decide)
  · exact False.elim
theorem nI_NNeq {a : Nat} (ha : a < 2 ^ 31) : (nI NN = nI a) ↔ False := by
  rw [eq_comm]
  exact nI_eqNN ha
theorem b01_b (b : Bool) : b01 (nI b.toNat) := by cases b <;> first | exact Or.inl rfl | exact Or.inr rfl
theorem b01_v1 {v : Nat} (h : v ≤ 1) : b01 (nI v) := by
  have : v = 0 ∨ v = 1 := by omega
  rcases this with rfl | rfl
  · exact Or.inl rfl
  · exact Or.inr rfl
theorem tN0 (b : Bool) : (nI b.toNat = nI 0) ↔ b = false := by cases b <;> decide
theorem xN (x : Int32) : nI x.toBitVec.toNat = x := by
  apply Int32.toBitVec_inj.mp
  show BitVec.ofNat 32 x.toBitVec.toNat = x.toBitVec
  simp

/-- what there is when a call has ended -/
def WA (σ : St) : Prop :=
  (V σ 7 0 ∧ V σ 7 0 ∧ V σ 23 0 ∧ V σ 25 0 ∧ σ 12 7 0 ≠ 0 ∧ σ 12 7 6 ≠ 0) ∧
  (∀ k, k < 10 → V σ 4 k ∧ σ 12 23 k ≠ 0) ∧
  (∀ i, 1 ≤ i → i ≤ 5 → V σ 1 i ∧ σ 12 1 i ≠ 0 ∧ σ 12 7 i ≠ 0) ∧
  (∀ t, isMA t = true → V σ t 0 ∧ σ 12 8 (t - 30) ≠ 0) ∧
  (∀ i, V σ 5 i ↔ i < σ 1 1 2) ∧
  (∀ i, (V σ 2 i ↔ i < σ 1 2 2) ∧ (V σ 24 i ↔ i < σ 1 2 2) ∧ (i < σ 1 2 2 → σ 12 2 i ≠ 0)) ∧
  (∀ i, (V σ 3 i ↔ i < σ 1 3 2) ∧ (V σ 19 i ↔ i < σ 1 3 2) ∧ (i < σ 1 3 2 → σ 12 3 i ≠ 0)) ∧
  (∀ i, V σ 6 i ↔ i < σ 1 5 2) ∧
  (∀ i, 1 ≤ i → i ≤ 5 → (V σ 26 i ↔ σ 9 i 0 ≠ 0) ∧ σ 1 i 2 ≤ σ 9 i 0 ∧ σ 9 i 0 < 100000000)
section RDF
variable {dE : Nat} {ad : Nat → Nat → Nat} {ρ : St} {μ : Mu} {h : Hp}

theorem t_7 (r : RR dE ad ρ μ h) (w : WA ρ)  : hT h (ad 7 0) = 7 := r.tag (w.1.1)
theorem t_23 (r : RR dE ad ρ μ h) (w : WA ρ)  : hT h (ad 23 0) = 23 := r.tag (w.1.2.2.1)
theorem t_25 (r : RR dE ad ρ μ h) (w : WA ρ)  : hT h (ad 25 0) = 25 := r.tag (w.1.2.2.2.1)
theorem t_4 (r : RR dE ad ρ μ h) (w : WA ρ) {k : Nat} (hk : k < 10) : hT h (ad 4 k) = 4 := r.tag ((w.2.1 k hk).1)
theorem t_1 (r : RR dE ad ρ μ h) (w : WA ρ) {i : Nat} (h1 : 1 ≤ i) (h5 : i ≤ 5) : hT h (ad 1 i) = 1 := r.tag ((w.2.2.1 i h1 h5).1)
theorem t_2 (r : RR dE ad ρ μ h) (w : WA ρ) {c : Nat} (hc : c < ρ 1 2 2) : hT h (ad 2 c) = 2 := r.tag ((w.2.2.2.2.2.1 c).1.mpr hc)
theorem t_24 (r : RR dE ad ρ μ h) (w : WA ρ) {c : Nat} (hc : c < ρ 1 2 2) : hT h (ad 24 c) = 24 := r.tag ((w.2.2.2.2.2.1 c).2.1.mpr hc)
theorem t_5 (r : RR dE ad ρ μ h) (w : WA ρ) {l : Nat} (hl : l < ρ 1 1 2) : hT h (ad 5 l) = 5 := r.tag ((w.2.2.2.2.1 l).mpr hl)
theorem t_3 (r : RR dE ad ρ μ h) (w : WA ρ) {n : Nat} (hn : n < ρ 1 3 2) : hT h (ad 3 n) = 3 := r.tag ((w.2.2.2.2.2.2.1 n).1.mpr hn)
theorem t_19 (r : RR dE ad ρ μ h) (w : WA ρ) {n : Nat} (hn : n < ρ 1 3 2) : hT h (ad 19 n) = 20 := r.tag ((w.2.2.2.2.2.2.1 n).2.1.mpr hn)
theorem t_6 (r : RR dE ad ρ μ h) (w : WA ρ) {p : Nat} (hp : p < ρ 1 5 2) : hT h (ad 6 p) = 6 := r.tag ((w.2.2.2.2.2.2.2.1 p).mpr hp)
theorem t_26 (r : RR dE ad ρ μ h) (w : WA ρ) {i : Nat} (h1 : 1 ≤ i) (h5 : i ≤ 5) (h0 : ρ 9 i 0 ≠ 0) : hT h (ad 26 i) = 26 := r.tag ((w.2.2.2.2.2.2.2.2 i h1 h5).1.mpr h0)
theorem n_23 (r : RR dE ad ρ μ h) (w : WA ρ)  : hL h (ad 23 0) = 10 := r.len (w.1.2.2.1)
theorem n_25 (r : RR dE ad ρ μ h) (w : WA ρ)  : hL h (ad 25 0) = 8 := r.len (w.1.2.2.2.1)
theorem n_24 (r : RR dE ad ρ μ h) (w : WA ρ) {c : Nat} (hc : c < ρ 1 2 2) : hL h (ad 24 c) = 10 := r.len ((w.2.2.2.2.2.1 c).2.1.mpr hc)
theorem n_19 (r : RR dE ad ρ μ h) (w : WA ρ) {n : Nat} (hn : n < ρ 1 3 2) : hL h (ad 19 n) = 10 := r.len ((w.2.2.2.2.2.2.1 n).2.1.mpr hn)
theorem n_26 (r : RR dE ad ρ μ h) (w : WA ρ) {i : Nat} (h1 : 1 ≤ i) (h5 : i ≤ 5) (h0 : ρ 9 i 0 ≠ 0) : hL h (ad 26 i) = ρ 9 i 0 := r.len ((w.2.2.2.2.2.2.2.2 i h1 h5).1.mpr h0)
theorem i_7_7 (r : RR dE ad ρ μ h) (w : WA ρ)  : hI h (ad 7 0) 7 = nI (ρ 7 0 7) := r.int (w.1.1) rfl
theorem i_7_8 (r : RR dE ad ρ μ h) (w : WA ρ)  : hI h (ad 7 0) 8 = nI (ρ 7 0 8) := r.int (w.1.1) rfl
theorem i_7_9 (r : RR dE ad ρ μ h) (w : WA ρ)  : hI h (ad 7 0) 9 = nI (ρ 7 0 9) := r.int (w.1.1) rfl
theorem i_4_0 (r : RR dE ad ρ μ h) (w : WA ρ) {k : Nat} (hk : k < 10) : hI h (ad 4 k) 0 = nI (ρ 4 k 0) := r.int ((w.2.1 k hk).1) rfl
theorem i_4_1 (r : RR dE ad ρ μ h) (w : WA ρ) {k : Nat} (hk : k < 10) : hI h (ad 4 k) 1 = nI (ρ 4 k 1) := r.int ((w.2.1 k hk).1) rfl
theorem i_4_2 (r : RR dE ad ρ μ h) (w : WA ρ) {k : Nat} (hk : k < 10) : hI h (ad 4 k) 2 = nI (ρ 4 k 2) := r.int ((w.2.1 k hk).1) rfl
theorem i_4_3 (r : RR dE ad ρ μ h) (w : WA ρ) {k : Nat} (hk : k < 10) : hI h (ad 4 k) 3 = nI (ρ 4 k 3) := r.int ((w.2.1 k hk).1) rfl
theorem i_1_2 (r : RR dE ad ρ μ h) (w : WA ρ) {i : Nat} (h1 : 1 ≤ i) (h5 : i ≤ 5) : hI h (ad 1 i) 2 = nI (ρ 1 i 2) := r.int ((w.2.2.1 i h1 h5).1) rfl
theorem i_5_0 (r : RR dE ad ρ μ h) (w : WA ρ) {l : Nat} (hl : l < ρ 1 1 2) : hI h (ad 5 l) 0 = nI (ρ 5 l 0) := r.int ((w.2.2.2.2.1 l).mpr hl) rfl
theorem i_5_1 (r : RR dE ad ρ μ h) (w : WA ρ) {l : Nat} (hl : l < ρ 1 1 2) : hI h (ad 5 l) 1 = nI (ρ 5 l 1) := r.int ((w.2.2.2.2.1 l).mpr hl) rfl
theorem i_5_2 (r : RR dE ad ρ μ h) (w : WA ρ) {l : Nat} (hl : l < ρ 1 1 2) : hI h (ad 5 l) 2 = nI (ρ 5 l 2) := r.int ((w.2.2.2.2.1 l).mpr hl) rfl
theorem i_5_3 (r : RR dE ad ρ μ h) (w : WA ρ) {l : Nat} (hl : l < ρ 1 1 2) : hI h (ad 5 l) 3 = nI (ρ 5 l 3) := r.int ((w.2.2.2.2.1 l).mpr hl) rfl
theorem i_5_4 (r : RR dE ad ρ μ h) (w : WA ρ) {l : Nat} (hl : l < ρ 1 1 2) : hI h (ad 5 l) 4 = nI (ρ 5 l 4) := r.int ((w.2.2.2.2.1 l).mpr hl) rfl
theorem i_2_0 (r : RR dE ad ρ μ h) (w : WA ρ) {c : Nat} (hc : c < ρ 1 2 2) : hI h (ad 2 c) 0 = nI (ρ 2 c 0) := r.int ((w.2.2.2.2.2.1 c).1.mpr hc) rfl
theorem i_2_1 (r : RR dE ad ρ μ h) (w : WA ρ) {c : Nat} (hc : c < ρ 1 2 2) : hI h (ad 2 c) 1 = nI (ρ 2 c 1) := r.int ((w.2.2.2.2.2.1 c).1.mpr hc) rfl
theorem i_2_3 (r : RR dE ad ρ μ h) (w : WA ρ) {c : Nat} (hc : c < ρ 1 2 2) : hI h (ad 2 c) 3 = nI (ρ 2 c 3) := r.int ((w.2.2.2.2.2.1 c).1.mpr hc) rfl
theorem i_2_4 (r : RR dE ad ρ μ h) (w : WA ρ) {c : Nat} (hc : c < ρ 1 2 2) : hI h (ad 2 c) 4 = nI (ρ 2 c 4) := r.int ((w.2.2.2.2.2.1 c).1.mpr hc) rfl
theorem i_2_6 (r : RR dE ad ρ μ h) (w : WA ρ) {c : Nat} (hc : c < ρ 1 2 2) : hI h (ad 2 c) 6 = nI (ρ 2 c 6) := r.int ((w.2.2.2.2.2.1 c).1.mpr hc) rfl
theorem i_2_7 (r : RR dE ad ρ μ h) (w : WA ρ) {c : Nat} (hc : c < ρ 1 2 2) : hI h (ad 2 c) 7 = nI (ρ 2 c 7) := r.int ((w.2.2.2.2.2.1 c).1.mpr hc) rfl
theorem i_2_8 (r : RR dE ad ρ μ h) (w : WA ρ) {c : Nat} (hc : c < ρ 1 2 2) : hI h (ad 2 c) 8 = nI (ρ 2 c 8) := r.int ((w.2.2.2.2.2.1 c).1.mpr hc) rfl
theorem i_3_0 (r : RR dE ad ρ μ h) (w : WA ρ) {n : Nat} (hn : n < ρ 1 3 2) : hI h (ad 3 n) 0 = nI (ρ 3 n 0) := r.int ((w.2.2.2.2.2.2.1 n).1.mpr hn) rfl
theorem i_3_2 (r : RR dE ad ρ μ h) (w : WA ρ) {n : Nat} (hn : n < ρ 1 3 2) : hI h (ad 3 n) 2 = nI (ρ 3 n 2) := r.int ((w.2.2.2.2.2.2.1 n).1.mpr hn) rfl
theorem i_6_0 (r : RR dE ad ρ μ h) (w : WA ρ) {p : Nat} (hp : p < ρ 1 5 2) : hI h (ad 6 p) 0 = nI (ρ 6 p 0) := r.int ((w.2.2.2.2.2.2.2.1 p).mpr hp) rfl
theorem i_6_1 (r : RR dE ad ρ μ h) (w : WA ρ) {p : Nat} (hp : p < ρ 1 5 2) : hI h (ad 6 p) 1 = nI (ρ 6 p 1) := r.int ((w.2.2.2.2.2.2.2.1 p).mpr hp) rfl
theorem i_6_2 (r : RR dE ad ρ μ h) (w : WA ρ) {p : Nat} (hp : p < ρ 1 5 2) : hI h (ad 6 p) 2 = nI (ρ 6 p 2) := r.int ((w.2.2.2.2.2.2.2.1 p).mpr hp) rfl
theorem i_19 (r : RR dE ad ρ μ h) (w : WA ρ) {n : Nat} (hn : n < ρ 1 3 2) {j : Nat} : hI h (ad 19 n) j = nI (ρ 19 n j) := r.int ((w.2.2.2.2.2.2.1 n).2.1.mpr hn) rfl
theorem r_7_0 (r : RR dE ad ρ μ h) (w : WA ρ)  : hR h (ad 7 0) 0 = some (ad 23 0) := r.ref (x := some (23, 0)) (w.1.1) (by show (if _ then _ else _) = _; rw [if_neg w.1.2.2.2.2.1]; rfl)
theorem r_7_1 (r : RR dE ad ρ μ h) (w : WA ρ)  : hR h (ad 7 0) 1 = some (ad 1 1) := r.ref (x := some (1, 1)) (w.1.1) (by show (if _ then _ else _) = _; rw [if_neg (w.2.2.1 1 (by decide) (by decide)).2.2]; rfl)
theorem r_7_2 (r : RR dE ad ρ μ h) (w : WA ρ)  : hR h (ad 7 0) 2 = some (ad 1 2) := r.ref (x := some (1, 2)) (w.1.1) (by show (if _ then _ else _) = _; rw [if_neg (w.2.2.1 2 (by decide) (by decide)).2.2]; rfl)
theorem r_7_3 (r : RR dE ad ρ μ h) (w : WA ρ)  : hR h (ad 7 0) 3 = some (ad 1 3) := r.ref (x := some (1, 3)) (w.1.1) (by show (if _ then _ else _) = _; rw [if_neg (w.2.2.1 3 (by decide) (by decide)).2.2]; rfl)
theorem r_7_4 (r : RR dE ad ρ μ h) (w : WA ρ)  : hR h (ad 7 0) 4 = some (ad 1 4) := r.ref (x := some (1, 4)) (w.1.1) (by show (if _ then _ else _) = _; rw [if_neg (w.2.2.1 4 (by decide) (by decide)).2.2]; rfl)
theorem r_7_5 (r : RR dE ad ρ μ h) (w : WA ρ)  : hR h (ad 7 0) 5 = some (ad 1 5) := r.ref (x := some (1, 5)) (w.1.1) (by show (if _ then _ else _) = _; rw [if_neg (w.2.2.1 5 (by decide) (by decide)).2.2]; rfl)
theorem r_7_6 (r : RR dE ad ρ μ h) (w : WA ρ)  : hR h (ad 7 0) 6 = some (ad 25 0) := r.ref (x := some (25, 0)) (w.1.1) (by show (if _ then _ else _) = _; rw [if_neg w.1.2.2.2.2.2]; rfl)
theorem r_23 (r : RR dE ad ρ μ h) (w : WA ρ) {k : Nat} (hk : k < 10) : hR h (ad 23 0) k = some (ad 4 k) := r.ref (x := some (4, k)) (w.1.2.2.1) (by show (if _ then _ else _) = _; rw [if_neg (w.2.1 k hk).2])
theorem r_25 (r : RR dE ad ρ μ h) (w : WA ρ) {j : Nat} : hR h (ad 25 0) j = am ad (orl 2 (ρ 25 0 j)) := r.ref (x := orl 2 (ρ 25 0 j)) (w.1.2.2.2.1) (rfl)
theorem r_24 (r : RR dE ad ρ μ h) (w : WA ρ) {c : Nat} (hc : c < ρ 1 2 2) {j : Nat} : hR h (ad 24 c) j = am ad (orl 5 (ρ 24 c j)) := r.ref (x := orl 5 (ρ 24 c j)) ((w.2.2.2.2.2.1 c).2.1.mpr hc) (rfl)
theorem r_2_2 (r : RR dE ad ρ μ h) (w : WA ρ) {c : Nat} (hc : c < ρ 1 2 2) : hR h (ad 2 c) 2 = some (ad 24 c) := r.ref (x := some (24, c)) ((w.2.2.2.2.2.1 c).1.mpr hc) (by show (if _ then _ else _) = _; rw [if_neg ((w.2.2.2.2.2.1 c).2.2 hc)])
theorem r_2_5 (r : RR dE ad ρ μ h) (w : WA ρ) {c : Nat} (hc : c < ρ 1 2 2) : hR h (ad 2 c) 5 = am ad (orl 3 (ρ 2 c 5)) := r.ref (x := orl 3 (ρ 2 c 5)) ((w.2.2.2.2.2.1 c).1.mpr hc) (rfl)
theorem r_3 (r : RR dE ad ρ μ h) (w : WA ρ) {n : Nat} (hn : n < ρ 1 3 2) : hR h (ad 3 n) 1 = some (ad 19 n) := r.ref (x := some (19, n)) ((w.2.2.2.2.2.2.1 n).1.mpr hn) (by show (if _ then _ else _) = _; rw [if_neg (fun z => z.elim ((w.2.2.2.2.2.2.1 n).2.2 hn) (fun z => z rfl))])
theorem r_1 (r : RR dE ad ρ μ h) (w : WA ρ) {i : Nat} (h1 : 1 ≤ i) (h5 : i ≤ 5) (h0 : ρ 9 i 0 ≠ 0) : hR h (ad 1 i) 1 = some (ad 26 i) := r.ref (x := some (26, i)) ((w.2.2.1 i h1 h5).1) (by show (if _ then _ else _) = _; rw [if_neg (fun z => z.elim (w.2.2.1 i h1 h5).2.1 (fun z => z rfl)), if_neg h0])
theorem r_1e (r : RR dE ad ρ μ h) (w : WA ρ) {i : Nat} (h1 : 1 ≤ i) (h5 : i ≤ 5) (h0 : ρ 9 i 0 = 0) : hR h (ad 1 i) 1 = some (ad 27 0) := r.ref (x := some (27, 0)) ((w.2.2.1 i h1 h5).1) (by show (if _ then _ else _) = _; rw [if_neg (fun z => z.elim (w.2.2.1 i h1 h5).2.1 (fun z => z rfl)), if_pos h0])
theorem r_26 (r : RR dE ad ρ μ h) (w : WA ρ) {i : Nat} (h1 : 1 ≤ i) (h5 : i ≤ 5) (h0 : ρ 9 i 0 ≠ 0) {j : Nat} (hj : j < ρ 1 i 2) : hR h (ad 26 i) j = some (ad (elm ρ i j).1 (elm ρ i j).2) := r.ref (x := some (elm ρ i j)) ((w.2.2.2.2.2.2.2.2 i h1 h5).1.mpr h0) (by show (if _ then _ else _) = _; rw [if_pos hj])
theorem t_27 (r : RR dE ad ρ μ h) : hT h dE = 27 := by rw [← r.eD]; exact r.tag r.vE
theorem n_27 (r : RR dE ad ρ μ h) : hL h dE = 0 := by rw [← r.eD]; exact r.len r.vE
end RDF
