/-! the line and the lane hold together -/
def WL1 (σ : St) : Prop := ∀ s, σ 25 0 s ≠ 0 → s < 8 ∧ σ 25 0 s ≤ σ 1 2 2 ∧ σ 2 (σ 25 0 s - 1) 3 = 1 ∧ σ 2 (σ 25 0 s - 1) 4 = s
def WL5 (σ : St) : Prop := σ 10 0 0 ≤ σ 1 2 2 ∧ ∀ c, c < σ 1 2 2 → (σ 2 c 3 = 0 ↔ σ 10 0 0 ≤ c)
def WL6 (σ : St) : Prop := ∀ c, c < σ 1 2 2 → (σ 2 c 3 = 1 ∨ σ 2 c 3 = 2 → σ 2 c 4 = σ 2 c 9) ∧ (σ 2 c 3 = 0 ∨ σ 2 c 3 = 3 → σ 2 c 4 = NN)
def WL (σ : St) : Prop := WL1 σ ∧
  (∀ j, j < σ 1 4 2 → σ 26 4 j = σ 27 0 j ∧ σ 27 0 j < σ 1 2 2 ∧ σ 2 (σ 27 0 j) 3 = 2) ∧
  (∀ j j', j < σ 1 4 2 → j' < σ 1 4 2 → σ 27 0 j = σ 27 0 j' → j = j') ∧
  σ 10 0 1 = σ 1 4 2 ∧ WL5 σ ∧ WL6 σ
theorem tl25 (σ : St) (c s x : Nat) : toLine σ c s 25 0 x = if x = s then c + 1 else σ 25 0 x := by simp [toLine, up]
theorem tl2 (σ : St) (c s x k : Nat) (h : k ≠ 3 ∧ k ≠ 4 ∧ k ≠ 9) : toLine σ c s 2 x k = σ 2 x k := by simp [toLine, up, h.1, h.2.1, h.2.2]
theorem tl3 (σ : St) (c s x : Nat) : toLine σ c s 2 x 3 = if x = c then 1 else σ 2 x 3 := by simp [toLine, up]
theorem tl4 (σ : St) (c s x : Nat) : toLine σ c s 2 x 4 = if x = c then s else σ 2 x 4 := by simp [toLine, up]
theorem tl9 (σ : St) (c s x : Nat) : toLine σ c s 2 x 9 = if x = c then s else σ 2 x 9 := by simp [toLine, up]
theorem tlx (σ : St) (c s a b k : Nat) (h : a ≠ 2 ∧ a ≠ 25) : toLine σ c s a b k = σ a b k := by simp [toLine, up, h.1, h.2]
theorem c25 (σ : St) (s x : Nat) : clr σ s 25 0 x = if x = s then 0 else σ 25 0 x := by simp [clr, up]
theorem cx (σ : St) (s a b k : Nat) (h : a ≠ 25) : clr σ s a b k = σ a b k := by simp [clr, up, h]
/-- on the line, all but one car -/
def WQ (σ : St) (c : Nat) : Prop :=
  (∀ s, σ 25 0 s ≠ 0 → s < 8 ∧ σ 25 0 s ≤ σ 1 2 2 ∧ σ 25 0 s - 1 ≠ c ∧ σ 2 (σ 25 0 s - 1) 3 = 1 ∧ σ 2 (σ 25 0 s - 1) 4 = s) ∧
  (σ 10 0 0 ≤ σ 1 2 2 ∧ ∀ x, x < σ 1 2 2 → x ≠ c → (σ 2 x 3 = 0 ↔ σ 10 0 0 ≤ x)) ∧
  (∀ x, x < σ 1 2 2 → x ≠ c → (σ 2 x 3 = 1 ∨ σ 2 x 3 = 2 → σ 2 x 4 = σ 2 x 9) ∧ (σ 2 x 3 = 0 ∨ σ 2 x 3 = 3 → σ 2 x 4 = NN))
theorem WX_clr {σ : St} {c s : Nat} (h1 : WL1 σ) (h5 : WL5 σ) (h6 : WL6 σ) (e : σ 25 0 s = c + 1) : WQ (clr σ s) c := by
  have xx : ∀ a b k, a ≠ 25 → clr σ s a b k = σ a b k := fun a b k h => cx σ s a b k h
  have xs := (h1 s (by omega)).2.2.2
  rw [e, Nat.add_sub_cancel] at xs
  refine ⟨fun x hx => ?_, ⟨?_, fun x hx _ => ?_⟩, fun x hx _ => ?_⟩
  · rw [c25] at hx ⊢
    by_cases q : x = s
    · rw [if_pos q] at hx; exact absurd rfl hx
    · rw [if_neg q] at hx ⊢
      rw [xx _ _ _ (by decide), xx _ _ _ (by decide), xx _ _ _ (by decide)]
      obtain ⟨y1, y2, y3, y4⟩ := h1 x hx
      refine ⟨y1, y2, fun z => ?_, y3, y4⟩
      rw [z] at y4
      omega
  · rw [xx _ _ _ (by decide), xx _ _ _ (by decide)]; exact h5.1
  · rw [xx _ _ _ (by decide)] at hx
    rw [xx _ _ _ (by decide), xx _ _ _ (by decide)]; exact h5.2 x hx
  · rw [xx _ _ _ (by decide)] at hx
    rw [xx _ _ _ (by decide), xx _ _ _ (by decide), xx _ _ _ (by decide)]; exact h6 x hx
theorem WX_line {σ : St} {c s : Nat} (h : WQ σ c) (hc : c < σ 1 2 2) (hs : s < 8) (hb : c < σ 10 0 0) : WL1 (toLine σ c s) ∧ WL5 (toLine σ c s) ∧ WL6 (toLine σ c s) := by
  obtain ⟨h1, ⟨h5, h5'⟩, h6⟩ := h
  have xx : ∀ a b k, a ≠ 2 → a ≠ 25 → toLine σ c s a b k = σ a b k := fun a b k q1 q2 => tlx σ c s a b k ⟨q1, q2⟩
  refine ⟨fun x hx => ?_, ⟨?_, fun x hx => ?_⟩, fun x hx => ?_⟩
  · rw [tl25] at hx ⊢
    rw [xx _ _ _ (by decide) (by decide), tl3, tl4]
    by_cases q : x = s
    · rw [if_pos q, Nat.add_sub_cancel, if_pos rfl, if_pos rfl]
      exact ⟨by omega, by omega, rfl, q.symm⟩
    · rw [if_neg q] at hx ⊢
      obtain ⟨y1, y2, y3, y4, y5⟩ := h1 x hx
      rw [if_neg y3, if_neg y3]
      exact ⟨y1, y2, y4, y5⟩
  · rw [xx _ _ _ (by decide) (by decide), xx _ _ _ (by decide) (by decide)]; exact h5
  · rw [xx _ _ _ (by decide) (by decide)] at hx
    rw [tl3, xx 10 _ _ (by decide) (by decide)]
    by_cases q : x = c
    · rw [if_pos q]; omega
    · rw [if_neg q]; exact h5' x hx q
  · rw [xx _ _ _ (by decide) (by decide)] at hx
    rw [tl3, tl4, tl9]
    by_cases q : x = c
    · rw [if_pos q, if_pos q, if_pos q]; exact ⟨fun _ => rfl, fun z => by omega⟩
    · rw [if_neg q, if_neg q, if_neg q]; exact h6 x hx q
/-- a car moves on -/
theorem WL_move {σ : St} {c s s2 : Nat} (h : WL σ) (e : σ 25 0 s = c + 1) (hs2 : s2 < 8) : WL (toLine (clr σ s) c s2) := by
  obtain ⟨h1, h2, h3, h4, h5, h6⟩ := h
  obtain ⟨y1, y2, y3, y4⟩ := h1 s (by omega)
  rw [e, Nat.add_sub_cancel] at y3 y4
  have hc : c < σ 1 2 2 := by omega
  have hb : c < σ 10 0 0 := by have := h5.2 c hc; omega
  have xx : ∀ a b k, a ≠ 2 → a ≠ 25 → toLine (clr σ s) c s2 a b k = σ a b k := fun a b k q1 q2 => (tlx _ _ _ _ _ _ ⟨q1, q2⟩).trans (cx _ _ _ _ _ q2)
  obtain ⟨g1, g5, g6⟩ := WX_line (s := s2) (WX_clr h1 h5 h6 e) (by rw [cx _ _ _ _ _ (by decide)]; exact hc) hs2 (by rw [cx _ _ _ _ _ (by decide)]; exact hb)
  refine ⟨g1, fun j hj => ?_, fun j j' hj hj' => ?_, ?_, g5, g6⟩
  · rw [xx _ _ _ (by decide) (by decide)] at hj
    obtain ⟨z1, z2, z3⟩ := h2 j hj
    rw [xx _ _ _ (by decide) (by decide), xx _ _ _ (by decide) (by decide), xx _ _ _ (by decide) (by decide), tl3]
    refine ⟨z1, z2, ?_⟩
    rw [if_neg (fun q => by rw [q] at z3; omega), cx _ _ _ _ _ (by decide)]
    exact z3
  · rw [xx _ _ _ (by decide) (by decide)] at hj hj'
    rw [xx _ _ _ (by decide) (by decide), xx _ _ _ (by decide) (by decide)]
    exact h3 j j' hj hj'
  · rw [xx _ _ _ (by decide) (by decide), xx _ _ _ (by decide) (by decide)]
    exact h4
/-- what toLane reads -/
theorem ta1 (σ : St) (c s : Nat) : toLane σ c s 1 4 2 = σ 1 4 2 + 1 := by simp [toLane, addS, up]
theorem ta26 (σ : St) (c s x : Nat) : toLane σ c s 26 4 x = if x = σ 1 4 2 then c else σ 26 4 x := by simp [toLane, addS, up]
theorem ta27 (σ : St) (c s x : Nat) : toLane σ c s 27 0 x = if x = σ 1 4 2 then c else σ 27 0 x := by simp [toLane, addS, up]
theorem ta3 (σ : St) (c s x : Nat) : toLane σ c s 2 x 3 = if x = c then 2 else σ 2 x 3 := by simp [toLane, addS, up]
theorem ta4 (σ : St) (c s x : Nat) : toLane σ c s 2 x 4 = if x = c then s else σ 2 x 4 := by simp [toLane, addS, up]
theorem ta9 (σ : St) (c s x : Nat) : toLane σ c s 2 x 9 = if x = c then s else σ 2 x 9 := by simp [toLane, addS, up]
theorem ta2 (σ : St) (c s x k : Nat) (h : k ≠ 3 ∧ k ≠ 4 ∧ k ≠ 9) : toLane σ c s 2 x k = σ 2 x k := by simp [toLane, addS, up, h.1, h.2.1, h.2.2]
theorem ta10 (σ : St) (c s : Nat) : toLane σ c s 10 0 1 = σ 1 4 2 + 1 := by simp [toLane, addS, up]
theorem tab (σ : St) (c s : Nat) : toLane σ c s 10 0 0 = σ 10 0 0 := by simp [toLane, addS, up]
theorem ta12 (σ : St) (c s : Nat) : toLane σ c s 1 2 2 = σ 1 2 2 := by simp [toLane, addS, up]
theorem ta25 (σ : St) (c s x : Nat) : toLane σ c s 25 0 x = σ 25 0 x := by simp [toLane, addS, up]
/-- a car goes back -/
theorem WL_back {σ : St} {c s s2 : Nat} (h : WL σ) (e : σ 25 0 s = c + 1) : WL (toLane (clr σ s) c s2) := by
  obtain ⟨h1, h2, h3, h4, h5, h6⟩ := h
  obtain ⟨y1, y2, y3, y4⟩ := h1 s (by omega)
  rw [e, Nat.add_sub_cancel] at y3 y4
  have hc : c < σ 1 2 2 := by omega
  have hb : c < σ 10 0 0 := by have := h5.2 c hc; omega
  obtain ⟨g1, ⟨g5, g5'⟩, g6⟩ := WX_clr h1 h5 h6 e
  have xx : ∀ a b k, a ≠ 25 → clr σ s a b k = σ a b k := fun a b k h => cx σ s a b k h
  have x1 : ∀ i k, clr σ s 1 i k = σ 1 i k := fun i k => xx _ _ _ (by decide)
  have x2 : ∀ i k, clr σ s 2 i k = σ 2 i k := fun i k => xx _ _ _ (by decide)
  have x10 : ∀ i k, clr σ s 10 i k = σ 10 i k := fun i k => xx _ _ _ (by decide)
  have x26 : ∀ i k, clr σ s 26 i k = σ 26 i k := fun i k => xx _ _ _ (by decide)
  have x27 : ∀ i k, clr σ s 27 i k = σ 27 i k := fun i k => xx _ _ _ (by decide)
  refine ⟨fun x hx => ?_, fun j hj => ?_, fun j j' hj hj' => ?_, ?_, ⟨?_, fun x hx => ?_⟩, fun x hx => ?_⟩
  · rw [ta25] at hx ⊢
    obtain ⟨z1, z2, z3, z4, z5⟩ := g1 x hx
    rw [ta12, ta3, ta4, if_neg z3, if_neg z3]
    exact ⟨z1, z2, z4, z5⟩
  · rw [ta1, x1] at hj
    rw [ta26, ta27, ta12, x1, x1, x26, x27]
    by_cases q : j = σ 1 4 2
    · rw [if_pos q, if_pos q, ta3, if_pos rfl]
      exact ⟨rfl, hc, rfl⟩
    · obtain ⟨z1, z2, z3⟩ := h2 j (by omega)
      rw [if_neg q, if_neg q, ta3, if_neg (fun q => by rw [q] at z3; omega), x2]
      exact ⟨z1, z2, z3⟩
  · rw [ta1, x1] at hj hj'
    rw [ta27, ta27, x1, x27, x27]
    by_cases q : j = σ 1 4 2
    · by_cases q' : j' = σ 1 4 2
      · omega
      · rw [if_pos q, if_neg q']
        intro z
        have := (h2 j' (by omega)).2.2
        rw [← z] at this
        omega
    · by_cases q' : j' = σ 1 4 2
      · rw [if_neg q, if_pos q']
        intro z
        have := (h2 j (by omega)).2.2
        rw [z] at this
        omega
      · rw [if_neg q, if_neg q']
        exact h3 j j' (by omega) (by omega)
  · rw [ta10, ta1]
  · rw [tab, ta12]; exact g5
  · rw [ta12] at hx
    rw [ta3, tab]
    by_cases q : x = c
    · rw [if_pos q, x10]; omega
    · rw [if_neg q]; exact g5' x hx q
  · rw [ta12] at hx
    rw [ta3, ta4, ta9]
    by_cases q : x = c
    · rw [if_pos q, if_pos q, if_pos q]; exact ⟨fun _ => rfl, fun z => by omega⟩
    · rw [if_neg q, if_neg q, if_neg q]; exact g6 x hx q
/-- slots that the places don't speak of -/
theorem WL_up {σ : St} {t i j v : Nat} (h : WL σ) (n : t ≠ 1 ∧ t ≠ 10 ∧ t ≠ 25 ∧ t ≠ 26 ∧ t ≠ 27 ∧ (t = 2 → j ≠ 3 ∧ j ≠ 4 ∧ j ≠ 9)) : WL (up σ t i j v) := by
  have e1 : ∀ a k, up σ t i j v 1 a k = σ 1 a k := fun a k => up_ne (fun z => n.1 z.1.symm)
  have e10 : ∀ a k, up σ t i j v 10 a k = σ 10 a k := fun a k => up_ne (fun z => n.2.1 z.1.symm)
  have e25 : ∀ a k, up σ t i j v 25 a k = σ 25 a k := fun a k => up_ne (fun z => n.2.2.1 z.1.symm)
  have e26 : ∀ a k, up σ t i j v 26 a k = σ 26 a k := fun a k => up_ne (fun z => n.2.2.2.1 z.1.symm)
  have e27 : ∀ a k, up σ t i j v 27 a k = σ 27 a k := fun a k => up_ne (fun z => n.2.2.2.2.1 z.1.symm)
  have e3 : ∀ a, up σ t i j v 2 a 3 = σ 2 a 3 := fun a => up_ne (fun z => (n.2.2.2.2.2 z.1.symm).1 z.2.2.symm)
  have e4 : ∀ a, up σ t i j v 2 a 4 = σ 2 a 4 := fun a => up_ne (fun z => (n.2.2.2.2.2 z.1.symm).2.1 z.2.2.symm)
  have e9 : ∀ a, up σ t i j v 2 a 9 = σ 2 a 9 := fun a => up_ne (fun z => (n.2.2.2.2.2 z.1.symm).2.2 z.2.2.symm)
  unfold WL WL1 WL5 WL6 at *
  simp only [e1, e10, e25, e26, e27, e3, e4, e9]
  exact h
theorem pig : ∀ (N n : Nat) (f : Nat → Nat), (∀ i, i < n → f i < N) → (∀ i j, i < n → j < n → f i = f j → i = j) → n ≤ N := by
  intro N
  induction N with
  | zero =>
    intro n f h _
    cases n with
    | zero => exact Nat.le_refl 0
    | succ n => exact absurd (h 0 (by omega)) (by omega)
  | succ N ih =>
    intro n f h hi
    by_cases e : ∃ i, i < n ∧ f i = N
    · obtain ⟨i0, hi0, e0⟩ := e
      have := ih (n - 1) (fun i => if i < i0 then f i else f (i + 1)) (fun i hn => ?_) (fun i j h1 h2 e => ?_)
      · omega
      · show (if i < i0 then f i else f (i + 1)) < N
        split
        · have := h i (by omega)
          have : f i ≠ N := fun z => by have := hi i i0 (by omega) hi0 (by omega); omega
          omega
        · have := h (i + 1) (by omega)
          have : f (i + 1) ≠ N := fun z => by have := hi (i + 1) i0 (by omega) hi0 (by omega); omega
          omega
      · have e : (if i < i0 then f i else f (i + 1)) = (if j < i0 then f j else f (j + 1)) := e
        split at e <;> split at e
        · exact hi i j (by omega) (by omega) e
        · have := hi i (j + 1) (by omega) (by omega) e; omega
        · have := hi (i + 1) j (by omega) (by omega) e; omega
        · have := hi (i + 1) (j + 1) (by omega) (by omega) e; omega
    · have := ih n f (fun i hn => by
        have := h i hn
        have : f i ≠ N := fun z => e ⟨i, hn, z⟩
        omega) hi
      omega
/-- fewer wait than there are cars when one is on the line -/
theorem wait_lt {σ : St} {c : Nat} (h : WL σ) (hc : c < σ 1 2 2) (e : σ 2 c 3 ≠ 2) : σ 1 4 2 < σ 1 2 2 := by
  obtain ⟨h1, h2, h3, h4, h5, h6⟩ := h
  have := pig (σ 1 2 2) (σ 1 4 2 + 1) (fun j => if j < σ 1 4 2 then σ 27 0 j else c) (fun j hj => ?_) (fun j j' hj hj' z => ?_)
  · omega
  · show (if j < σ 1 4 2 then σ 27 0 j else c) < σ 1 2 2
    split
    · rename_i q; exact (h2 j q).2.1
    · exact hc
  · have z : (if j < σ 1 4 2 then σ 27 0 j else c) = (if j' < σ 1 4 2 then σ 27 0 j' else c) := z
    split at z <;> split at z
    · rename_i q q'; exact h3 j j' q q' z
    · rename_i q q'; have := (h2 j q).2.2; rw [z] at this; exact absurd this e
    · rename_i q q'; have := (h2 j' q').2.2; rw [← z] at this; exact absurd this e
    · omega

