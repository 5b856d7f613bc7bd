/-! the mathematical state: by kind, number and slot a natural number.
 1 lists (1 lots, 2 cars, 3 images, 4 lane, 5 picks; slot 2: the size), 2 cars, 3 images, 4 kinds, 5 lots, 6 picks, 7 the line itself, 9 capacities (no object), 10 how many cars have begun (no object), 19 versions of an image, 24 parts of a car (lot + 1, or 0), 25 stations (car + 1, or 0), 26 what lies in a list -/
abbrev St : Type := Nat → Nat → Nat → Nat
def up (ρ : St) (t i j v : Nat) : St := fun t' i' j' => if t' = t ∧ i' = i ∧ j' = j then v else ρ t' i' j'
theorem up_eq {ρ : St} {t i j v : Nat} : up ρ t i j v t i j = v := by simp [up]
theorem up_ne {ρ : St} {t i j v t' i' j' : Nat} (h : ¬ (t' = t ∧ i' = i ∧ j' = j)) : up ρ t i j v t' i' j' = ρ t' i' j' := by simp [up, h]
/-- none -/
def NN : Nat := 4294967295
theorem nI_NN : nI NN = -1 := by decide
/-- arrays of the Model: label 30 + field -/
def isMA (t : Nat) : Bool := match t with
  | 31 | 32 | 33 | 34 | 36 | 37 | 38 | 39 | 41 | 42 | 43 | 44 | 45 | 46 | 47 | 48 | 49 | 50 | 54 | 55 | 56 => true
  | _ => false
def lnM (t : Nat) : Nat := match t with
  | 31 | 32 | 33 | 34 | 56 => 10
  | 36 | 37 | 38 | 39 => 40
  | 41 | 42 | 43 | 45 | 46 | 47 | 48 | 50 => 30
  | 44 => 300
  | 49 => 8
  | 54 => 400
  | 55 => 1200
  | _ => 0
def tgL (t : Nat) : Nat := match t with
  | 19 => 20
  | 34 | 39 | 46 | 47 | 48 | 55 => 21
  | 31 | 32 | 33 | 36 | 37 | 38 | 41 | 42 | 43 | 44 | 45 | 49 | 50 | 54 | 56 => 20
  | t => t
/-- the things that there are -/
def V (ρ : St) (t i : Nat) : Prop := match t with
  | 7 => i = 0
  | 8 => i = 0
  | 22 => i = 0
  | 23 => i = 0
  | 25 => i = 0
  | 4 => i < 10
  | 1 => 1 ≤ i ∧ i ≤ 5
  | 5 => i < ρ 1 1 2
  | 2 => i < ρ 1 2 2
  | 24 => i < ρ 1 2 2
  | 3 => i < ρ 1 3 2
  | 19 => i < ρ 1 3 2
  | 6 => i < ρ 1 5 2
  | 26 => 1 ≤ i ∧ i ≤ 5 ∧ ρ 9 i 0 ≠ 0
  | t => isMA t = true ∧ i = 0
def lnL (ρ : St) (t i : Nat) : Nat := match t with
  | 23 => 10
  | 24 => 10
  | 19 => 10
  | 25 => 8
  | 22 => 1
  | 26 => ρ 9 i 0
  | t => lnM t
/-- what the Model's field holds -/
def mv (μ : St) (t n : Nat) : Nat := match t with
  | 31 => μ 4 n 0
  | 32 => μ 4 n 1
  | 33 => μ 4 n 2
  | 34 => μ 4 n 3
  | 36 => μ 5 n 1
  | 37 => μ 5 n 2
  | 38 => μ 5 n 3
  | 39 => μ 5 n 4
  | 41 => μ 2 n 1
  | 42 => μ 2 n 3
  | 43 => μ 2 n 4
  | 44 => μ 24 (n / 10) (n % 10)
  | 45 => μ 2 n 5
  | 46 => μ 2 n 6
  | 47 => μ 2 n 7
  | 48 => μ 2 n 8
  | 49 => μ 25 0 n
  | 50 => μ 26 4 n - 1
  | 54 => μ 19 (n / 10) (n % 10)
  | 55 => if (μ 3 (n / 30) 2).testBit (n % 30) then 1 else 0
  | _ => 0
/-- which of its places are told -/
def mt (μ : St) (t n : Nat) : Prop := match t with
  | 43 => n < 30 ∧ (μ 2 n 3 = 1 ∨ μ 2 n 3 = 2)
  | 50 => n < μ 1 4 2
  | 56 => False
  | t => n < lnM t
def isI (t j : Nat) : Bool := match t with
  | 7 => j == 7 || j == 8 || j == 9
  | 4 => j == 0 || j == 1 || j == 2 || j == 3
  | 1 => j == 2
  | 5 => j == 0 || j == 1 || j == 2 || j == 3 || j == 4
  | 2 => j == 0 || j == 1 || j == 3 || j == 4 || j == 6 || j == 7 || j == 8
  | 3 => j == 0 || j == 2
  | 19 => true
  | 6 => j == 0 || j == 1 || j == 2
  | _ => false
/-- a reference, or none -/
def orf (f : Nat → Nat) (v : Nat) : Option Nat := if v = 0 then none else some (f (v - 1))
theorem orf_0 (f : Nat → Nat) : orf f 0 = none := rfl
theorem orf_s (f : Nat → Nat) (v : Nat) : orf f (v + 1) = some (f v) := rfl
/-- what references the things hold: 'none' where nothing is told -/
def cr (dE : Nat) (ad : Nat → Nat → Nat) (ρ : St) (t i j : Nat) : Option (Option Nat) := match t with
  | 7 => if j = 0 then some (some (ad 23 0)) else if 1 ≤ j ∧ j ≤ 5 then some (some (ad 1 j)) else if j = 6 then some (some (ad 25 0)) else none
  | 23 => if j < 10 then some (some (ad 4 j)) else none
  | 1 => if j = 1 then some (some (if ρ 9 i 0 = 0 then dE else ad 26 i)) else none
  | 25 => if j < 8 then some (orf (ad 2) (ρ 25 0 j)) else none
  | 24 => if j < 10 then some (orf (ad 5) (ρ 24 i j)) else none
  | 2 => if j = 2 then some (some (ad 24 i)) else if j = 5 then some (orf (ad 3) (ρ 2 i 5)) else none
  | 3 => if j = 1 then some (some (ad 19 i)) else none
  | 26 => if j < ρ 1 i 2 then some (if i = 1 then some (ad 5 j) else if i = 2 then some (ad 2 j) else if i = 3 then some (ad 3 j) else if i = 4 then orf (ad 2) (ρ 26 4 j) else some (ad 6 j)) else none
  | 8 => if isMA (30 + j) then some (some (ad (30 + j) 0)) else none
  | _ => none
/-- the Model's own numbers: field to list or counter -/
def ms (μ : St) (j : Nat) : Option Nat := match j with
  | 5 => some (μ 1 1 2)
  | 10 => some (μ 1 2 2)
  | 21 => some (μ 1 4 2)
  | 22 => some (μ 10 0 0)
  | 23 => some (μ 1 3 2)
  | 27 => some (μ 7 0 7)
  | 28 => some (μ 7 0 8)
  | 29 => some (μ 7 0 9)
  | _ => none
/-- the heap holds the line's state ρ and the Model's state μ, at the addresses ad -/
def RR (dE : Nat) (ad : Nat → Nat → Nat) (ρ μ : St) (h : Hp) : Prop :=
  (∀ t i t' i', V ρ t i → V ρ t' i' → ad t i = ad t' i' → t = t' ∧ i = i') ∧
  (∀ t i, V ρ t i → hT h (ad t i) = tgL t ∧ hL h (ad t i) = lnL ρ t i) ∧
  (∀ t i j, V ρ t i → isI t j = true → hI h (ad t i) j = nI (ρ t i j)) ∧
  (∀ t i j x, V ρ t i → cr dE ad ρ t i j = some x → hR h (ad t i) j = x) ∧
  (∀ j x, ms μ j = some x → hI h (ad 8 0) j = nI x) ∧
  (∀ t n, isMA t = true → mt μ t n → hI h (ad t 0) n = nI (mv μ t n)) ∧
  hT h dE = 27 ∧ hL h dE = 0
section RRL
variable {dE : Nat} {ad : Nat → Nat → Nat} {ρ μ : St} {h : Hp}
theorem RR.inj (r : RR dE ad ρ μ h) {t i t' i' : Nat} (v : V ρ t i) (v' : V ρ t' i') (e : ad t i = ad t' i') : t = t' ∧ i = i' := r.1 t i t' i' v v' e
theorem RR.tag (r : RR dE ad ρ μ h) {t i : Nat} (v : V ρ t i) : hT h (ad t i) = tgL t := (r.2.1 t i v).1
theorem RR.len (r : RR dE ad ρ μ h) {t i : Nat} (v : V ρ t i) : hL h (ad t i) = lnL ρ t i := (r.2.1 t i v).2
theorem RR.int (r : RR dE ad ρ μ h) {t i j : Nat} (v : V ρ t i) (w : isI t j = true) : hI h (ad t i) j = nI (ρ t i j) := r.2.2.1 t i j v w
theorem RR.ref (r : RR dE ad ρ μ h) {t i j : Nat} {x : Option Nat} (v : V ρ t i) (w : cr dE ad ρ t i j = some x) : hR h (ad t i) j = x := r.2.2.2.1 t i j x v w
theorem RR.num (r : RR dE ad ρ μ h) {j x : Nat} (w : ms μ j = some x) : hI h (ad 8 0) j = nI x := r.2.2.2.2.1 j x w
theorem RR.arr (r : RR dE ad ρ μ h) {t n : Nat} (w : isMA t = true) (z : mt μ t n) : hI h (ad t 0) n = nI (mv μ t n) := r.2.2.2.2.2.1 t n w z
theorem V_ma {ρ : St} {t : Nat} (w : isMA t = true) : V ρ t 0 := by
  unfold isMA at w
  split at w <;> first | exact ⟨rfl, rfl⟩ | cases w
theorem tgL_ma {t : Nat} (w : isMA t = true) : tgL t = 20 ∨ tgL t = 21 := by
  unfold isMA at w
  split at w <;> first | exact Or.inl rfl | exact Or.inr rfl | cases w
theorem isI_ma {t j : Nat} (w : isMA t = true) : isI t j = false := by
  unfold isMA at w
  split at w <;> first | rfl | cases w
theorem cr_ma {t i j : Nat} (w : isMA t = true) : cr dE ad ρ t i j = none := by
  unfold isMA at w
  split at w <;> first | rfl | cases w
/-- what the Model's part asks does not touch other things -/
theorem RR.ne (r : RR dE ad ρ μ h) {t i t' i' : Nat} (v : V ρ t i) (v' : V ρ t' i') (n : ¬ (t = t' ∧ i = i')) : ad t i ≠ ad t' i' := fun e => n (r.inj v v' e)
/-- a slot of the line's things that is no size and no capacity -/
theorem V_up {ρ : St} {t i j v : Nat} (n1 : ¬ (t = 1 ∧ j = 2)) (n9 : t ≠ 9) (t' i' : Nat) : V (up ρ t i j v) t' i' ↔ V ρ t' i' := by
  have e1 : ∀ k, up ρ t i j v 1 k 2 = ρ 1 k 2 := fun k => up_ne (fun z => n1 ⟨z.1.symm, z.2.2.symm⟩)
  have e9 : ∀ k, up ρ t i j v 9 k 0 = ρ 9 k 0 := fun k => up_ne (fun z => n9 z.1.symm)
  unfold V
  simp only [e1, e9]
theorem lnL_up {ρ : St} {t i j v : Nat} (n9 : t ≠ 9) (t' i' : Nat) : lnL (up ρ t i j v) t' i' = lnL ρ t' i' := by
  have e9 : ∀ k, up ρ t i j v 9 k 0 = ρ 9 k 0 := fun k => up_ne (fun z => n9 z.1.symm)
  unfold lnL
  simp only [e9]
theorem cr_up {ρ : St} {t i j v : Nat} (n1 : ¬ (t = 1 ∧ j = 2)) (n9 : t ≠ 9) (nr : isI t j = true) (t' i' j' : Nat) : cr dE ad (up ρ t i j v) t' i' j' = cr dE ad ρ t' i' j' := by
  have e1 : ∀ k, up ρ t i j v 1 k 2 = ρ 1 k 2 := fun k => up_ne (fun z => n1 ⟨z.1.symm, z.2.2.symm⟩)
  have e9 : ∀ k, up ρ t i j v 9 k 0 = ρ 9 k 0 := fun k => up_ne (fun z => n9 z.1.symm)
  have e25 : ∀ k, up ρ t i j v 25 0 k = ρ 25 0 k := fun k => up_ne (fun z => by rw [← z.1] at nr; cases nr)
  have e24 : ∀ k q, up ρ t i j v 24 k q = ρ 24 k q := fun k q => up_ne (fun z => by rw [← z.1] at nr; cases nr)
  have e2 : ∀ k, up ρ t i j v 2 k 5 = ρ 2 k 5 := fun k => up_ne (fun z => by rw [← z.1, ← z.2.2] at nr; cases nr)
  have e26 : ∀ q, up ρ t i j v 26 4 q = ρ 26 4 q := fun q => up_ne (fun z => by rw [← z.1] at nr; cases nr)
  unfold cr
  simp only [e1, e9, e25, e24, e2, e26]
/-- an int of the line is written -/
theorem RR.setI (r : RR dE ad ρ μ h) {t i j v : Nat} (w : V ρ t i) (nr : isI t j = true) (n1 : ¬ (t = 1 ∧ j = 2)) : RR dE ad (up ρ t i j v) μ (sI h (ad t i) j (nI v)) := by
  have n9 : t ≠ 9 := fun z => by rw [z] at nr; cases nr
  have hne : ∀ {t' : Nat}, isI t j = true → V ρ t' 0 → isI t' j = false → ad t' 0 ≠ ad t i := fun h1 h2 h3 e => by
    obtain ⟨e1, -⟩ := r.inj h2 w e
    rw [e1] at h3
    rw [h3] at h1
    cases h1
  refine ⟨fun a b c d v1 v2 => r.1 a b c d ((V_up n1 n9 a b).mp v1) ((V_up n1 n9 c d).mp v2), fun a b v1 => ?_, fun a b k v1 w1 => ?_, fun a b k x v1 w1 => ?_, fun k x w1 => ?_, fun a n w1 z => ?_, r.2.2.2.2.2.2.1, r.2.2.2.2.2.2.2⟩
  · rw [hT_sI, hL_sI, lnL_up n9]
    exact r.2.1 a b ((V_up n1 n9 a b).mp v1)
  · have v2 := (V_up n1 n9 a b).mp v1
    rw [hI_sI]
    by_cases z : a = t ∧ b = i ∧ k = j
    · obtain ⟨rfl, rfl, rfl⟩ := z
      rw [if_pos ⟨rfl, rfl⟩, up_eq]
    · rw [up_ne z, if_neg, r.int v2 w1]
      rintro ⟨z1, z2⟩
      obtain ⟨e1, e2⟩ := r.inj v2 w z1
      exact z ⟨e1, e2, z2⟩
  · rw [hR_sI]
    rw [cr_up n1 n9 nr] at w1
    exact r.ref ((V_up n1 n9 a b).mp v1) w1
  · rw [hI_sI, if_neg (fun z => hne nr (show V ρ 8 0 from rfl) rfl z.1), r.num w1]
  · rw [hI_sI, if_neg (fun z9 => hne nr (V_ma w1) (isI_ma w1) z9.1), r.arr w1 z]
end RRL
