/-! the mathematical state: by kind, number and slot a natural number.
 1 lists (1 lots, 2 cars, 3 images, 4 lane, 5 picks; slot 2: the size), 2 cars, 3 images, 4 kinds, 5 lots, 6 picks, 7 the line itself, 9 capacities, 10 numbers beside the heap (0: how many cars have begun, 1: how many wait), 11 what there is, 12 what is linked, 19 versions of an image, 24 parts of a car (lot + 1, or 0), 25 stations (car + 1, or 0), 26 the lane of the line (cars), 27 the lane of the Model (cars), 28 what is signed -/
abbrev St : Type := Nat → Nat → Nat → Nat
def up (ρ : St) (t i j v : Nat) : St := fun t' i' j' => if t' = t ∧ i' = i ∧ j' = j then v else ρ t' i' j'
theorem up_eq {ρ : St} {t i j v : Nat} : up ρ t i j v t i j = v := by simp [up]
theorem up_ne {ρ : St} {t i j v t' i' j' : Nat} (h : ¬ (t' = t ∧ i' = i ∧ j' = j)) : up ρ t i j v t' i' j' = ρ t' i' j' := by simp [up, h]
/-- none -/
def NN : Nat := 4294967295
theorem nI_NN : nI NN = -1 := by decide
/-- arrays of the Model: label 30 + field -/
def isMA (_ : Nat) : Bool := false
def lnM (t : Nat) : Nat := match t with
  | 31 | 32 | 33 | 34 | 56 => 10
  | 36 | 37 | 38 | 39 => 40
  | 41 | 42 | 43 | 45 | 46 | 47 | 48 | 50 => 30
  | 44 => 300
  | 49 => 8
  | 54 => 400
  | 55 => 1200
  | _ => 0
def tgL (t : Nat) : Nat := match t with
  | 19 => 20
  | 34 | 39 | 46 | 47 | 48 | 55 => 21
  | 31 | 32 | 33 | 36 | 37 | 38 | 41 | 42 | 43 | 44 | 45 | 49 | 50 | 54 | 56 => 20
  | t => t
/-- the things that there are -/
def V (ρ : St) (t i : Nat) : Prop := ρ 11 t i ≠ 0
def lnL (ρ : St) (t i : Nat) : Nat := match t with
  | 23 => 10
  | 24 => 10
  | 19 => 10
  | 25 => 8
  | 22 => 1
  | 26 => ρ 9 i 0
  | t => lnM t
/-- what else the heap holds: at which addresses, and as in which heap -/
abbrev Mu : Type := (Nat → Prop) × Hp
def mv (_ : Mu) (_ _ : Nat) : Nat := 0
def ms (_ : Mu) (_ : Nat) : Nat := 0
def isM (j : Nat) : Bool := j == 0 || j == 5 || j == 10 || j == 21 || j == 22 || j == 23 || j == 27 || j == 28 || j == 29
def isI (t j : Nat) : Bool := match t with
  | 7 => j == 7 || j == 8 || j == 9
  | 4 => j == 0 || j == 1 || j == 2 || j == 3
  | 1 => j == 2
  | 5 => j == 0 || j == 1 || j == 2 || j == 3 || j == 4
  | 2 => j == 0 || j == 1 || j == 3 || j == 4 || j == 6 || j == 7 || j == 8
  | 3 => j == 0 || j == 2
  | 19 => true
  | 6 => j == 0 || j == 1 || j == 2
  | _ => false
/-- a thing, or none -/
def orl (t v : Nat) : Option (Nat × Nat) := if v = 0 then none else some (t, v - 1)
/-- what lies in a list -/
def elm (ρ : St) (i j : Nat) : Nat × Nat := if i = 1 then (5, j) else if i = 2 then (2, j) else if i = 3 then (3, j) else if i = 4 then (2, ρ 26 4 j) else (6, j)
/-- what things the things hold: 'none' where nothing is told -/
def cr (ρ : St) (t i j : Nat) : Option (Option (Nat × Nat)) := match t with
  | 7 => if ρ 12 7 j = 0 then none else if j = 0 then some (some (23, 0)) else if 1 ≤ j ∧ j ≤ 5 then some (some (1, j)) else if j = 6 then some (some (25, 0)) else none
  | 8 => if ρ 12 8 j = 0 then none else some (some (30 + j, 0))
  | 23 => if ρ 12 23 j = 0 then none else some (some (4, j))
  | 1 => if ρ 12 1 i = 0 ∨ j ≠ 1 then none else some (some (if ρ 9 i 0 = 0 then (27, 0) else (26, i)))
  | 25 => some (orl 2 (ρ 25 i j))
  | 24 => some (orl 5 (ρ 24 i j))
  | 2 => if j = 2 then (if ρ 12 2 i = 0 then none else some (some (24, i))) else if j = 5 then some (orl 3 (ρ 2 i 5)) else none
  | 3 => if ρ 12 3 i = 0 ∨ j ≠ 1 then none else some (some (19, i))
  | 26 => if j < ρ 1 i 2 then some (some (elm ρ i j)) else none
  | _ => none
def am (ad : Nat → Nat → Nat) (x : Option (Nat × Nat)) : Option Nat := x.map (fun p => ad p.1 p.2)
def au (ad : Nat → Nat → Nat) (t i q : Nat) : Nat → Nat → Nat := fun t' i' => if t' = t ∧ i' = i then q else ad t' i'
def sameAt (h0 h : Hp) (a : Nat) : Prop := hT h a = hT h0 a ∧ hL h a = hL h0 a ∧ (∀ j, hI h a j = hI h0 a j) ∧ (∀ j, hR h a j = hR h0 a j) ∧ ∀ j, hJ h a j = hJ h0 a j
/-- what else there is lies apart from the line's things, and is as it was -/
def FRM (ad : Nat → Nat → Nat) (ρ : St) (μ : Mu) (h : Hp) : Prop := ∀ a, μ.1 a → hT h a ≠ 0 ∧ (∀ t i, V ρ t i → ad t i ≠ a) ∧ sameAt μ.2 h a
/-- the heap holds the line's state ρ at the addresses ad, and all of μ beside it -/
def RR (dE : Nat) (ad : Nat → Nat → Nat) (ρ : St) (μ : Mu) (h : Hp) : Prop :=
  (∀ t i t' i', V ρ t i → V ρ t' i' → ad t i = ad t' i' → t = t' ∧ i = i') ∧
  (∀ t i, V ρ t i → hT h (ad t i) = tgL t ∧ tgL t ≠ 0 ∧ hL h (ad t i) = lnL ρ t i) ∧
  (∀ t i j, V ρ t i → isI t j = true → hI h (ad t i) j = nI (ρ t i j)) ∧
  (∀ t i j x, V ρ t i → cr ρ t i j = some x → (∀ p, x = some p → V ρ p.1 p.2) ∧ hR h (ad t i) j = am ad x) ∧
  V ρ 27 0 ∧ ad 27 0 = dE ∧ FRM ad ρ μ h
theorem FRM.go {ad ad' : Nat → Nat → Nat} {ρ ρ' : St} {μ : Mu} {h h' : Hp} (f : FRM ad ρ μ h) (hv : ∀ a, hT h a ≠ 0 → (∀ t i, V ρ t i → ad t i ≠ a) → ∀ t i, V ρ' t i → ad' t i ≠ a) (hs : ∀ a, hT h a ≠ 0 → (∀ t i, V ρ t i → ad t i ≠ a) → sameAt h h' a) : FRM ad' ρ' μ h' := fun a ha => by
  obtain ⟨f0, f1, f2, f3, f4, f5, f6⟩ := f a ha
  obtain ⟨s2, s3, s4, s5, s6⟩ := hs a f0 f1
  exact ⟨by rw [s2]; exact f0, hv a f0 f1, s2.trans f2, s3.trans f3, fun j => (s4 j).trans (f4 j), fun j => (s5 j).trans (f5 j), fun j => (s6 j).trans (f6 j)⟩
theorem sameAt.rf {h : Hp} {a : Nat} : sameAt h h a := ⟨rfl, rfl, fun _ => rfl, fun _ => rfl, fun _ => rfl⟩
section RRL
variable {dE : Nat} {ad : Nat → Nat → Nat} {ρ : St} {μ : Mu} {h : Hp}
theorem RR.inj (r : RR dE ad ρ μ h) {t i t' i' : Nat} (v : V ρ t i) (v' : V ρ t' i') (e : ad t i = ad t' i') : t = t' ∧ i = i' := r.1 t i t' i' v v' e
theorem RR.tag (r : RR dE ad ρ μ h) {t i : Nat} (v : V ρ t i) : hT h (ad t i) = tgL t := (r.2.1 t i v).1
theorem RR.tg0 (r : RR dE ad ρ μ h) {t i : Nat} (v : V ρ t i) : tgL t ≠ 0 := (r.2.1 t i v).2.1
theorem RR.len (r : RR dE ad ρ μ h) {t i : Nat} (v : V ρ t i) : hL h (ad t i) = lnL ρ t i := (r.2.1 t i v).2.2
theorem RR.int (r : RR dE ad ρ μ h) {t i j : Nat} (v : V ρ t i) (w : isI t j = true) : hI h (ad t i) j = nI (ρ t i j) := r.2.2.1 t i j v w
theorem RR.ref (r : RR dE ad ρ μ h) {t i j : Nat} {x : Option (Nat × Nat)} (v : V ρ t i) (w : cr ρ t i j = some x) : hR h (ad t i) j = am ad x := (r.2.2.2.1 t i j x v w).2
theorem RR.rV (r : RR dE ad ρ μ h) {t i j : Nat} {p : Nat × Nat} (v : V ρ t i) (w : cr ρ t i j = some (some p)) : V ρ p.1 p.2 := (r.2.2.2.1 t i j _ v w).1 p rfl
theorem RR.vE (r : RR dE ad ρ μ h) : V ρ 27 0 := r.2.2.2.2.1
theorem RR.eD (r : RR dE ad ρ μ h) : ad 27 0 = dE := r.2.2.2.2.2.1
theorem RR.frm (r : RR dE ad ρ μ h) : FRM ad ρ μ h := r.2.2.2.2.2.2
theorem RR.ne (r : RR dE ad ρ μ h) {t i t' i' : Nat} (v : V ρ t i) (v' : V ρ t' i') (n : ¬ (t = t' ∧ i = i')) : ad t i ≠ ad t' i' := fun e => n (r.inj v v' e)
theorem RR.fresh (r : RR dE ad ρ μ h) {q t i : Nat} (z : hT h q = 0) (v : V ρ t i) : ad t i ≠ q := fun e => r.tg0 v (by rw [← r.tag v, e, z])
theorem isI_ma {t j : Nat} (w : isMA t = true) : isI t j = false := by
  cases w
theorem cr_ma {t i j : Nat} (w : isMA t = true) : cr ρ t i j = none := by
  cases w
/-- a slot that is no size, no capacity, no reference -/
def isQ (t j : Nat) : Bool := isI t j && !(t == 1) || t == 10 || t == 27 || t == 28 || (t == 2 && j == 9)
theorem isQ_I {t j : Nat} (w : isI t j = true) (n : t ≠ 1) : isQ t j = true := by simp [isQ, w, n]
theorem V_up {ρ : St} {t i j v : Nat} (n : t ≠ 11) (t' i' : Nat) : V (up ρ t i j v) t' i' ↔ V ρ t' i' := by
  have e : up ρ t i j v 11 t' i' = ρ 11 t' i' := up_ne (fun z => n z.1.symm)
  unfold V
  rw [e]
theorem lnL_up {ρ : St} {t i j v : Nat} (n9 : t ≠ 9) (t' i' : Nat) : lnL (up ρ t i j v) t' i' = lnL ρ t' i' := by
  have e9 : ∀ k, up ρ t i j v 9 k 0 = ρ 9 k 0 := fun k => up_ne (fun z => n9 z.1.symm)
  unfold lnL
  simp only [e9]
theorem isQ_n {t j : Nat} (q : isQ t j = true) : t ≠ 1 ∧ t ≠ 9 ∧ t ≠ 11 ∧ t ≠ 12 ∧ t ≠ 24 ∧ t ≠ 25 ∧ t ≠ 26 ∧ ¬ (t = 2 ∧ j = 5) := by
  refine ⟨?_, ?_, ?_, ?_, ?_, ?_, ?_, ?_⟩
  all_goals intro e
  all_goals first | (subst e; simp [isQ, isI] at q; done) | (obtain ⟨e, e2⟩ := e; subst e e2; simp [isQ, isI] at q; done)
theorem cr_up {ρ : St} {t i j v : Nat} (q : isQ t j = true) (t' i' j' : Nat) : cr (up ρ t i j v) t' i' j' = cr ρ t' i' j' := by
  obtain ⟨n1, n9, n11, n12, n24, n25, n26, n2⟩ := isQ_n q
  have e1 : ∀ k, up ρ t i j v 1 k 2 = ρ 1 k 2 := fun k => up_ne (fun z => n1 z.1.symm)
  have e9 : ∀ k, up ρ t i j v 9 k 0 = ρ 9 k 0 := fun k => up_ne (fun z => n9 z.1.symm)
  have e12 : ∀ a k, up ρ t i j v 12 a k = ρ 12 a k := fun a k => up_ne (fun z => n12 z.1.symm)
  have e25 : ∀ a k, up ρ t i j v 25 a k = ρ 25 a k := fun a k => up_ne (fun z => n25 z.1.symm)
  have e24 : ∀ k q, up ρ t i j v 24 k q = ρ 24 k q := fun k q => up_ne (fun z => n24 z.1.symm)
  have e2 : ∀ k, up ρ t i j v 2 k 5 = ρ 2 k 5 := fun k => up_ne (fun z => n2 ⟨z.1.symm, z.2.2.symm⟩)
  have e26 : ∀ q, up ρ t i j v 26 4 q = ρ 26 4 q := fun q => up_ne (fun z => n26 z.1.symm)
  unfold cr elm
  simp only [e1, e9, e25, e24, e2, e26, e12]
/-- another state of the line that tells nothing more -/
theorem RR.congL {ρ' : St} (r : RR dE ad ρ μ h) (hV : ∀ t i, V ρ' t i ↔ V ρ t i) (hl : ∀ t i, V ρ t i → lnL ρ' t i = lnL ρ t i) (hi : ∀ t i j, V ρ t i → isI t j = true → hI h (ad t i) j = nI (ρ' t i j)) (hc : ∀ t i j x, V ρ t i → cr ρ' t i j = some x → (∀ p, x = some p → V ρ p.1 p.2) ∧ hR h (ad t i) j = am ad x) (h22 : ρ' 22 0 0 = ρ 22 0 0) : RR dE ad ρ' μ h := by
  refine ⟨fun a b c d v1 v2 => r.1 a b c d ((hV a b).mp v1) ((hV c d).mp v2), fun a b v1 => ?_, fun a b k v1 w1 => hi a b k ((hV a b).mp v1) w1, fun a b k x v1 w1 => ?_, (hV 27 0).mpr r.vE, r.eD, r.frm.go (fun a _ f t i v => f t i ((hV t i).mp v)) (fun a _ _ => sameAt.rf)⟩
  · have v := (hV a b).mp v1
    rw [hl a b v]
    exact r.2.1 a b v
  · obtain ⟨h1, h2⟩ := hc a b k x ((hV a b).mp v1) w1
    exact ⟨fun p hp => (hV _ _).mpr (h1 p hp), h2⟩
/-- what the line doesn't tell -/
theorem RR.irr (r : RR dE ad ρ μ h) {t i j v : Nat} (q : isQ t j = true) (n : isI t j = false) : RR dE ad (up ρ t i j v) μ h :=
  r.congL (V_up (isQ_n q).2.2.1) (fun a b _ => lnL_up (isQ_n q).2.1 a b) (fun a b k va w => by rw [up_ne (fun z => by rw [z.1, z.2.2, n] at w; cases w)]; exact r.int va w) (fun a b k x va w => r.2.2.2.1 a b k x va (by rw [cr_up q] at w; exact w)) (up_ne (fun z => by rw [← z.1] at q; cases q))
/-- ints in the heap change where the line tells nothing, and references not -/
theorem RR.heapI {h' : Hp} {ρ' : St} (r : RR dE ad ρ μ h) (hV : ∀ t i, V ρ' t i ↔ V ρ t i) (hl : ∀ t i, V ρ t i → lnL ρ' t i = lnL ρ t i) (ht : ∀ a, hT h' a = hT h a) (hL' : ∀ a, hL h' a = hL h a) (hi : ∀ t i j, V ρ t i → isI t j = true → hI h' (ad t i) j = nI (ρ' t i j)) (hc : ∀ t i j x, V ρ t i → cr ρ' t i j = some x → (∀ p, x = some p → V ρ p.1 p.2) ∧ hR h' (ad t i) j = am ad x)
    (hfr : ∀ b, (∀ t i, V ρ t i → ad t i ≠ b) → (∀ j, hI h' b j = hI h b j) ∧ ∀ j, hR h' b j = hR h b j) (hj : ∀ a j, hJ h' a j = hJ h a j) (h22 : ρ' 22 0 0 = ρ 22 0 0) : RR dE ad ρ' μ h' := by
  refine ⟨fun a b c d v1 v2 => r.1 a b c d ((hV a b).mp v1) ((hV c d).mp v2), fun a b v1 => ?_, fun a b k v1 w1 => hi a b k ((hV a b).mp v1) w1, fun a b k x v1 w1 => ?_, (hV 27 0).mpr r.vE, r.eD, r.frm.go (fun a _ f t i v => f t i ((hV t i).mp v)) (fun a _ f => ⟨ht a, hL' a, (hfr a f).1, (hfr a f).2, fun j => hj a j⟩)⟩
  · have v := (hV a b).mp v1
    rw [ht, hL', hl a b v]
    exact r.2.1 a b v
  · obtain ⟨h1, h2⟩ := hc a b k x ((hV a b).mp v1) w1
    exact ⟨fun p hp => (hV _ _).mpr (h1 p hp), h2⟩
theorem isI_8 {j : Nat} : isI 8 j = false := rfl
/-- an int that the line doesn't tell, of no thing of the Model -/
theorem RR.rawI (r : RR dE ad ρ μ h) {t i j : Nat} {x : Int32} (w : V ρ t i) (n : isI t j = false) (n8 : t ≠ 8) (nm : isMA t = false) : RR dE ad ρ μ (sI h (ad t i) j x) := by
  refine r.heapI (fun _ _ => Iff.rfl) (fun _ _ _ => rfl) (fun _ => rfl) (fun _ => rfl) (fun a b k va wa => ?_) (fun a b k x va wa => r.2.2.2.1 a b k x va wa) (fun b nb => ⟨fun k => by rw [hI_sI, if_neg (fun z => nb _ _ w z.1.symm)], fun _ => rfl⟩) (fun _ _ => rfl) rfl
  · rw [hI_sI, if_neg, r.int va wa]
    rintro ⟨z1, z2⟩
    obtain ⟨e1, e2⟩ := r.inj va w z1
    rw [e1, z2, n] at wa
    cases wa
theorem isI_n8 {t j : Nat} (w : isI t j = true) : t ≠ 8 ∧ isMA t = false := by
  refine ⟨fun e => (by rw [e] at w; cases w), ?_⟩
  cases e : isMA t with
  | false => rfl
  | true => rw [isI_ma e] at w; cases w
/-- an int of the line is written -/
theorem RR.setI (r : RR dE ad ρ μ h) {t i j v : Nat} (w : V ρ t i) (nr : isI t j = true) (n1 : t ≠ 1) : RR dE ad (up ρ t i j v) μ (sI h (ad t i) j (nI v)) := by
  have q := isQ_I nr n1
  refine r.heapI (V_up (isQ_n q).2.2.1) (fun a b _ => lnL_up (isQ_n q).2.1 a b) (fun _ => rfl) (fun _ => rfl) (fun a b k va wa => ?_) (fun a b k x va wa => r.2.2.2.1 a b k x va (by rw [cr_up q] at wa; exact wa)) (fun b nb => ⟨fun k => by rw [hI_sI, if_neg (fun z => nb _ _ w z.1.symm)], fun _ => rfl⟩) (fun _ _ => rfl) (up_ne (fun z => by rw [← z.1] at nr; cases nr))
  · rw [hI_sI]
    by_cases z : a = t ∧ b = i ∧ k = j
    · obtain ⟨rfl, rfl, rfl⟩ := z
      rw [if_pos ⟨rfl, rfl⟩, up_eq]
    · rw [up_ne z, if_neg, r.int va wa]
      rintro ⟨z1, z2⟩
      obtain ⟨e1, e2⟩ := r.inj va w z1
      exact z ⟨e1, e2, z2⟩
/-- the size of a list is written -/
theorem RR.setS (r : RR dE ad ρ μ h) {i v : Nat} (w : V ρ 1 i) (hf : ∀ j, j < v → V ρ 26 i → V ρ (elm ρ i j).1 (elm ρ i j).2 ∧ hR h (ad 26 i) j = some (ad (elm ρ i j).1 (elm ρ i j).2)) : RR dE ad (up ρ 1 i 2 v) μ (sI h (ad 1 i) 2 (nI v)) := by
  refine r.heapI (V_up (by decide)) (fun a b _ => lnL_up (by decide) a b) (fun _ => rfl) (fun _ => rfl) (fun a b k va wa => ?_) (fun a b k x va wa => ?_) (fun b nb => ⟨fun k => by rw [hI_sI, if_neg (fun z => nb _ _ w z.1.symm)], fun _ => rfl⟩) (fun _ _ => rfl) (up_ne (fun z => by cases z.1))
  · rw [hI_sI]
    by_cases z : a = 1 ∧ b = i ∧ k = 2
    · obtain ⟨rfl, rfl, rfl⟩ := z
      rw [if_pos ⟨rfl, rfl⟩, up_eq]
    · rw [up_ne z, if_neg, r.int va wa]
      rintro ⟨z1, z2⟩
      obtain ⟨e1, e2⟩ := r.inj va w z1
      exact z ⟨e1, e2, z2⟩
  · rw [hR_sI]
    by_cases z : a = 26 ∧ b = i
    · obtain ⟨rfl, rfl⟩ := z
      have wa : (if k < up ρ 1 b 2 v 1 b 2 then some (some (elm (up ρ 1 b 2 v) b k)) else none) = some x := wa
      rw [up_eq] at wa
      have ee : elm (up ρ 1 b 2 v) b k = elm ρ b k := by
        unfold elm
        rw [up_ne (fun z => by cases z.1)]
      rw [ee] at wa
      by_cases hk : k < v
      · rw [if_pos hk] at wa
        injection wa with wa
        subst wa
        obtain ⟨f1, f2⟩ := hf k hk va
        exact ⟨fun p hp => by injection hp with hp; subst hp; exact f1, f2⟩
      · rw [if_neg hk] at wa
        cases wa
    · refine r.2.2.2.1 a b k x va ?_
      rw [← wa]
      have e1 : a = 26 → up ρ 1 i 2 v 1 b 2 = ρ 1 b 2 := fun e26 => up_ne (fun z9 => z ⟨e26, z9.2.1⟩)
      have e9 : ∀ k, up ρ 1 i 2 v 9 k 0 = ρ 9 k 0 := fun k => up_ne (fun z => by cases z.1)
      have e12 : ∀ a k, up ρ 1 i 2 v 12 a k = ρ 12 a k := fun a k => up_ne (fun z => by cases z.1)
      have e25 : ∀ a k, up ρ 1 i 2 v 25 a k = ρ 25 a k := fun a k => up_ne (fun z => by cases z.1)
      have e24 : ∀ k q, up ρ 1 i 2 v 24 k q = ρ 24 k q := fun k q => up_ne (fun z => by cases z.1)
      have e2 : ∀ k, up ρ 1 i 2 v 2 k 5 = ρ 2 k 5 := fun k => up_ne (fun z => by cases z.1)
      have e26 : ∀ q, up ρ 1 i 2 v 26 4 q = ρ 26 4 q := fun q => up_ne (fun z => by cases z.1)
      unfold cr elm
      split
      all_goals first | rfl | (rw [e1 rfl]; simp only [e26]; done) | simp only [e9, e25, e24, e2, e26, e12]
/-- a reference of the line is written -/
theorem RR.setR {ρ' : St} (r : RR dE ad ρ μ h) {t i j : Nat} {x : Option (Nat × Nat)} (w : V ρ t i) (hx : ∀ p, x = some p → V ρ p.1 p.2) (hV : ∀ t i, V ρ' t i ↔ V ρ t i) (hl : ∀ t i, lnL ρ' t i = lnL ρ t i) (hi : ∀ a b k, isI a k = true → ρ' a b k = ρ a b k)
    (hc : ∀ a b k y, V ρ a b → cr ρ' a b k = some y → (a = t ∧ b = i ∧ k = j ∧ y = x) ∨ (¬ (a = t ∧ b = i ∧ k = j) ∧ cr ρ a b k = some y)) (h22 : ρ' 22 0 0 = ρ 22 0 0) : RR dE ad ρ' μ (sR h (ad t i) j (am ad x)) := by
  refine r.heapI hV (fun a b _ => hl a b) (fun _ => rfl) (fun _ => rfl) (fun a b k va wa => ?_) (fun a b k y va wa => ?_) (fun b nb => ⟨fun _ => rfl, fun k => by rw [hR_sR, if_neg (fun z => nb _ _ w z.1.symm)]⟩) (fun _ _ => rfl) h22
  · rw [hI_sR, hi a b k wa]
    exact r.int va wa
  · rw [hR_sR]
    rcases hc a b k y va wa with ⟨rfl, rfl, rfl, rfl⟩ | ⟨z, wb⟩
    · rw [if_pos ⟨rfl, rfl⟩]
      exact ⟨hx, rfl⟩
    · rw [if_neg]
      · exact r.2.2.2.1 a b k y va wb
      · rintro ⟨z1, z2⟩
        obtain ⟨e1, e2⟩ := r.inj va w z1
        exact z ⟨e1, e2, z2⟩
end RRL
