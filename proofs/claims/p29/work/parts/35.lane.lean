/-! in from the lane -/
def remS (σ : St) (n : Nat) : St := fun t i j => if t = 26 ∧ i = 4 ∧ n ≤ j then σ 26 4 (j + 1) else if t = 1 ∧ i = 4 ∧ j = 2 then σ 1 4 2 - 1 else σ t i j
def laneN : Nat → Nat → Nat → St → St
  | 0, _, m, σ => up σ 10 0 1 m
  | d + 1, n, m, σ => if σ 25 0 (σ 2 (σ 27 0 n) 9) = 0 then laneN d (n + 1) m (toLine (remS σ m) (σ 27 0 n) (σ 2 (σ 27 0 n) 9)) else laneN d (n + 1) (m + 1) (up σ 27 0 m (σ 27 0 n))
def laneS (σ : St) : St := laneN (σ 10 0 1) 0 0 σ
theorem rm26 (σ : St) (n x : Nat) : remS σ n 26 4 x = if n ≤ x then σ 26 4 (x + 1) else σ 26 4 x := by simp [remS]
theorem rm1 (σ : St) (n : Nat) : remS σ n 1 4 2 = σ 1 4 2 - 1 := by simp [remS]
theorem rmx (σ : St) (n a b k : Nat) (h1 : a = 26 → b ≠ 4) (h2 : a = 1 → b ≠ 4 ∨ k ≠ 2) : remS σ n a b k = σ a b k := by
  unfold remS
  rw [if_neg (fun z => h1 z.1 z.2.1), if_neg (fun z => (h2 z.1).elim (fun q => q z.2.1) (fun q => q z.2.2))]
theorem rmy (σ : St) (n a b k : Nat) (h1 : a ≠ 26) (h2 : a ≠ 1) : remS σ n a b k = σ a b k := rmx _ _ _ _ _ (fun z => absurd z h1) (fun z => absurd z h2)
theorem rms (σ : St) (n i : Nat) (h : i ≠ 4) : remS σ n 1 i 2 = σ 1 i 2 := rmx _ _ _ _ _ (fun z => by cases z) (fun _ => Or.inl h)
theorem WI_rem {σ : St} (ww : WI σ) {n : Nat} : WI (remS σ n) := by
  obtain ⟨w, v, g, d, e⟩ := ww
  have x2 : ∀ b k, remS σ n 2 b k = σ 2 b k := fun b k => rmy _ _ _ _ _ (by decide) (by decide)
  have x3 : ∀ b k, remS σ n 3 b k = σ 3 b k := fun b k => rmy _ _ _ _ _ (by decide) (by decide)
  have x4 : ∀ b k, remS σ n 4 b k = σ 4 b k := fun b k => rmy _ _ _ _ _ (by decide) (by decide)
  have x5 : ∀ b k, remS σ n 5 b k = σ 5 b k := fun b k => rmy _ _ _ _ _ (by decide) (by decide)
  have x6 : ∀ b k, remS σ n 6 b k = σ 6 b k := fun b k => rmy _ _ _ _ _ (by decide) (by decide)
  have x9 : ∀ b k, remS σ n 9 b k = σ 9 b k := fun b k => rmy _ _ _ _ _ (by decide) (by decide)
  have x11 : ∀ b k, remS σ n 11 b k = σ 11 b k := fun b k => rmy _ _ _ _ _ (by decide) (by decide)
  have x12 : ∀ b k, remS σ n 12 b k = σ 12 b k := fun b k => rmy _ _ _ _ _ (by decide) (by decide)
  have x19 : ∀ b k, remS σ n 19 b k = σ 19 b k := fun b k => rmy _ _ _ _ _ (by decide) (by decide)
  have x24 : ∀ b k, remS σ n 24 b k = σ 24 b k := fun b k => rmy _ _ _ _ _ (by decide) (by decide)
  have x25 : ∀ b k, remS σ n 25 b k = σ 25 b k := fun b k => rmy _ _ _ _ _ (by decide) (by decide)
  have x28 : ∀ b k, remS σ n 28 b k = σ 28 b k := fun b k => rmy _ _ _ _ _ (by decide) (by decide)
  have s1 := rms σ n 1 (by decide)
  have s2 := rms σ n 2 (by decide)
  have s3 := rms σ n 3 (by decide)
  have s5 := rms σ n 5 (by decide)
  refine ⟨?_, ?_, ?_, ?_, ?_⟩
  · unfold WA V
    simp only [x9, x11, x12, s1, s2, s3, s5]
    refine ⟨w.1, w.2.1, w.2.2.1, w.2.2.2.1, w.2.2.2.2.1, w.2.2.2.2.2.1, w.2.2.2.2.2.2.1, w.2.2.2.2.2.2.2.1, fun i h1 h5 => ?_⟩
    obtain ⟨q1, q2, q3⟩ := w.2.2.2.2.2.2.2.2 i h1 h5
    by_cases i4 : i = 4
    · subst i4
      rw [rm1]
      exact ⟨q1, by omega, q3⟩
    · rw [rms σ n i i4]
      exact ⟨q1, q2, q3⟩
  · obtain ⟨w1, w2, w3, w4, ⟨v1, v2, v3, v4⟩, w6, w7, w8, w9, w10, w11⟩ := v
    unfold WV
    simp only [x2, x3, x4, x5, x19, x24, x25, s1, s2, s3, rm1]
    exact ⟨w1, w2, w3, w4, ⟨v1, v2, v3, by omega⟩, w6, w7, w8, w9, w10, w11⟩
  · intro n' c hc
    unfold sgnd
    rw [x28, x3]
    exact g n' c hc
  · unfold WC at *
    simp only [x9, s5]
    exact d
  · unfold WZ at *
    simp only [s1, s2, s3, s5, x5, x2, x24, x3, x19, x28, x6]
    exact e
/-- in the midst of the lane's loop -/
def LI (τ : St) (n m W : Nat) : Prop := WI τ ∧ WPk τ ∧ WL1 τ ∧ WL5 τ ∧ WL6 τ ∧ (m ≤ n ∧ n ≤ W ∧ W ≤ 30 ∧ τ 1 4 2 = m + (W - n)) ∧
  (∀ j, j < τ 1 4 2 → τ 26 4 j < τ 1 2 2 ∧ τ 2 (τ 26 4 j) 3 = 2) ∧ (∀ j j', j < τ 1 4 2 → j' < τ 1 4 2 → τ 26 4 j = τ 26 4 j' → j = j') ∧
  (∀ j, j < m → τ 27 0 j = τ 26 4 j) ∧ (∀ j, n ≤ j → j < W → τ 27 0 j = τ 26 4 (m + (j - n)))
def FR (σ τ : St) : Prop := (∀ i, i ≠ 4 → τ 1 i 2 = σ 1 i 2) ∧ τ 9 5 0 = σ 9 5 0
theorem FR_trans {σ τ υ : St} (a : FR σ τ) (b : FR τ υ) : FR σ υ := ⟨fun i h => (b.1 i h).trans (a.1 i h), b.2.trans a.2⟩
theorem LI_start {σ : St} (w : WW σ) : LI σ 0 0 (σ 1 4 2) := by
  obtain ⟨wi, ⟨h1, h2, h3, h4, h5, h6⟩, wp⟩ := w
  refine ⟨wi, wp, h1, h5, h6, ⟨Nat.le_refl _, Nat.zero_le _, wi.2.1.2.2.2.2.1.2.2.2, by omega⟩, fun j hj => ?_, fun j j' hj hj' e => ?_, fun j hj => absurd hj (Nat.not_lt_zero j), fun j _ hj => ?_⟩
  · obtain ⟨a, b, c⟩ := h2 j hj
    rw [a]; exact ⟨b, c⟩
  · rw [(h2 j hj).1, (h2 j' hj').1] at e
    exact h3 j j' hj hj' e
  · rw [Nat.zero_add, Nat.sub_zero]
    exact ((h2 j hj).1).symm
theorem LI_stay {τ : St} {n m W : Nat} (h : LI τ n m W) (hn : n < W) : LI (up τ 27 0 m (τ 27 0 n)) (n + 1) (m + 1) W ∧ FR τ (up τ 27 0 m (τ 27 0 n)) := by
  obtain ⟨wi, wp, h1, h5, h6, ⟨a1, a2, a3, a4⟩, b, c, d, e⟩ := h
  have x1 : ∀ i k, up τ 27 0 m (τ 27 0 n) 1 i k = τ 1 i k := fun i k => up_ne (fun z => by cases z.1)
  have x2 : ∀ i k, up τ 27 0 m (τ 27 0 n) 2 i k = τ 2 i k := fun i k => up_ne (fun z => by cases z.1)
  have x10 : ∀ i k, up τ 27 0 m (τ 27 0 n) 10 i k = τ 10 i k := fun i k => up_ne (fun z => by cases z.1)
  have x25 : ∀ i k, up τ 27 0 m (τ 27 0 n) 25 i k = τ 25 i k := fun i k => up_ne (fun z => by cases z.1)
  have x26 : ∀ i k, up τ 27 0 m (τ 27 0 n) 26 i k = τ 26 i k := fun i k => up_ne (fun z => by cases z.1)
  refine ⟨⟨WI_up wi (by simp [okU]), WPk_up wp (by decide), ?_, ?_, ?_, ⟨by omega, by omega, a3, by rw [x1]; omega⟩, fun j hj => ?_, fun j j' hj hj' => ?_, fun j hj => ?_, fun j hj hw => ?_⟩, fun i _ => x1 i 2, up_ne (fun z => by cases z.1)⟩
  · unfold WL1 at *
    simp only [x1, x2, x25]
    exact h1
  · unfold WL5 at *
    simp only [x1, x2, x10]
    exact h5
  · unfold WL6 at *
    simp only [x1, x2]
    exact h6
  · rw [x1] at hj
    rw [x26, x1, x2]
    exact b j hj
  · rw [x1] at hj hj'
    rw [x26, x26]
    exact c j j' hj hj'
  · rw [x26]
    by_cases q : j = m
    · subst q
      rw [up_eq, e n (Nat.le_refl _) hn, Nat.sub_self, Nat.add_zero]
    · rw [up_ne (fun z => q z.2.2)]
      exact d j (by omega)
  · rw [x26, up_ne (fun z => by omega), e j (by omega) hw]
    congr 1
    omega
theorem LI_come {τ : St} {n m W : Nat} (h : LI τ n m W) (hn : n < W) (fr : τ 25 0 (τ 2 (τ 27 0 n) 9) = 0) : LI (toLine (remS τ m) (τ 27 0 n) (τ 2 (τ 27 0 n) 9)) (n + 1) m W ∧ FR τ (toLine (remS τ m) (τ 27 0 n) (τ 2 (τ 27 0 n) 9)) := by
  obtain ⟨wi, wp, h1, h5, h6, ⟨a1, a2, a3, a4⟩, b, c, d, e⟩ := h
  have ec : τ 27 0 n = τ 26 4 m := by rw [e n (Nat.le_refl _) hn, Nat.sub_self, Nat.add_zero]
  have hm : m < τ 1 4 2 := by omega
  obtain ⟨hc, hw⟩ := b m hm
  rw [← ec] at hc hw
  have s8 : τ 2 (τ 27 0 n) 9 < 8 := (wi.2.1.2.2.1 (τ 27 0 n)).2.2.2.2.2
  have hb : τ 27 0 n < τ 10 0 0 := by have := h5.2 _ hc; omega
  generalize eC : τ 27 0 n = C at *
  generalize eS : τ 2 C 9 = s at *
  have xx : ∀ a b k, a ≠ 2 → a ≠ 25 → toLine (remS τ m) C s a b k = remS τ m a b k := fun a b k q1 q2 => tlx _ _ _ _ _ _ ⟨q1, q2⟩
  have y1 : ∀ i, i ≠ 4 → toLine (remS τ m) C s 1 i 2 = τ 1 i 2 := fun i hi => by rw [xx _ _ _ (by decide) (by decide)]; exact rms _ _ _ hi
  have y4 : toLine (remS τ m) C s 1 4 2 = τ 1 4 2 - 1 := by rw [xx _ _ _ (by decide) (by decide)]; exact rm1 _ _
  have yy : ∀ a b k, a ≠ 2 → a ≠ 25 → a ≠ 26 → a ≠ 1 → toLine (remS τ m) C s a b k = τ a b k := fun a b k q1 q2 q3 q4 => by rw [xx _ _ _ q1 q2]; exact rmy _ _ _ _ _ q3 q4
  have y26 : ∀ j, toLine (remS τ m) C s 26 4 j = if m ≤ j then τ 26 4 (j + 1) else τ 26 4 j := fun j => by rw [xx _ _ _ (by decide) (by decide)]; exact rm26 _ _ _
  have rq : WQ (remS τ m) C := by
    have z2 : ∀ b k, remS τ m 2 b k = τ 2 b k := fun b k => rmy _ _ _ _ _ (by decide) (by decide)
    have z25 : ∀ b k, remS τ m 25 b k = τ 25 b k := fun b k => rmy _ _ _ _ _ (by decide) (by decide)
    have z10 : ∀ b k, remS τ m 10 b k = τ 10 b k := fun b k => rmy _ _ _ _ _ (by decide) (by decide)
    have z12 := rms τ m 2 (by decide)
    unfold WQ
    simp only [z2, z25, z10, z12]
    refine ⟨fun x hx => ?_, ⟨h5.1, fun x hx _ => h5.2 x hx⟩, fun x hx _ => h6 x hx⟩
    obtain ⟨p1, p2, p3, p4⟩ := h1 x hx
    exact ⟨p1, p2, fun z => by rw [z] at p3; omega, p3, p4⟩
  obtain ⟨g1, g5, g6⟩ := WX_line (s := s) rq (by rw [rms τ m 2 (by decide)]; exact hc) s8 (by rw [rmy _ _ _ _ _ (by decide) (by decide)]; exact hb)
  refine ⟨⟨WI_line (WI_rem wi) (by rw [rms τ m 2 (by decide)]; exact hc) s8, WPk_cong wp (fun p j => yy _ _ _ (by decide) (by decide) (by decide) (by decide)) (fun p j => yy _ _ _ (by decide) (by decide) (by decide) (by decide)) (y1 2 (by decide)) (y1 5 (by decide)), g1, g5, g6, ⟨by omega, by omega, a3, by rw [y4]; omega⟩, fun j hj => ?_, fun j j' hj hj' => ?_, fun j hj => ?_, fun j hj hw2 => ?_⟩, y1, yy _ _ _ (by decide) (by decide) (by decide) (by decide)⟩
  · rw [y4] at hj
    rw [y26, y1 2 (by decide)]
    have key : ∀ i, i < τ 1 4 2 → i ≠ m → τ 26 4 i < τ 1 2 2 ∧ toLine (remS τ m) C s 2 (τ 26 4 i) 3 = 2 := by
      intro i hi ne
      obtain ⟨p1, p2⟩ := b i hi
      rw [tl3, if_neg (fun z => ne (c i m hi hm (z.trans ec))), rmy _ _ _ _ _ (by decide) (by decide)]
      exact ⟨p1, p2⟩
    by_cases q : m ≤ j
    · rw [if_pos q]; exact key (j + 1) (by omega) (by omega)
    · rw [if_neg q]; exact key j (by omega) (by omega)
  · rw [y4] at hj hj'
    rw [y26, y26]
    intro z
    by_cases q : m ≤ j
    · rw [if_pos q] at z
      by_cases q' : m ≤ j'
      · rw [if_pos q'] at z
        have := c (j + 1) (j' + 1) (by omega) (by omega) z
        omega
      · rw [if_neg q'] at z
        have := c (j + 1) j' (by omega) (by omega) z
        omega
    · rw [if_neg q] at z
      by_cases q' : m ≤ j'
      · rw [if_pos q'] at z
        have := c j (j' + 1) (by omega) (by omega) z
        omega
      · rw [if_neg q'] at z
        exact c j j' (by omega) (by omega) z
  · rw [y26, yy _ _ _ (by decide) (by decide) (by decide) (by decide), if_neg (by omega)]
    exact d j hj
  · rw [y26, yy _ _ _ (by decide) (by decide) (by decide) (by decide), if_pos (by omega), e j (by omega) hw2]
    congr 1
    omega
theorem LI_end {τ : St} {m W : Nat} (h : LI τ W m W) : WW (up τ 10 0 1 m) ∧ FR τ (up τ 10 0 1 m) := by
  obtain ⟨wi, wp, h1, h5, h6, ⟨a1, a2, a3, a4⟩, b, c, d, e⟩ := h
  have x1 : ∀ i k, up τ 10 0 1 m 1 i k = τ 1 i k := fun i k => up_ne (fun z => by cases z.1)
  have x2 : ∀ i k, up τ 10 0 1 m 2 i k = τ 2 i k := fun i k => up_ne (fun z => by cases z.1)
  have x10 : up τ 10 0 1 m 10 0 0 = τ 10 0 0 := up_ne (fun z => by cases z.2.2)
  have x25 : ∀ i k, up τ 10 0 1 m 25 i k = τ 25 i k := fun i k => up_ne (fun z => by cases z.1)
  have x26 : ∀ i k, up τ 10 0 1 m 26 i k = τ 26 i k := fun i k => up_ne (fun z => by cases z.1)
  have x27 : ∀ i k, up τ 10 0 1 m 27 i k = τ 27 i k := fun i k => up_ne (fun z => by cases z.1)
  refine ⟨⟨WI_up wi (by simp [okU]), ⟨?_, fun j hj => ?_, fun j j' hj hj' z => ?_, ?_, ?_, ?_⟩, WPk_up wp (by decide)⟩, fun i _ => x1 i 2, up_ne (fun z => by cases z.1)⟩
  · unfold WL1 at *
    simp only [x1, x2, x25]
    exact h1
  · rw [x1] at hj
    rw [x26, x27, x1, x2, d j (by omega)]
    exact ⟨rfl, b j hj⟩
  · rw [x1] at hj hj'
    rw [x27, x27, d j (by omega), d j' (by omega)] at z
    exact c j j' hj hj' z
  · rw [up_eq, x1]; omega
  · unfold WL5 at *
    simp only [x1, x2, x10]
    exact h5
  · unfold WL6 at *
    simp only [x1, x2]
    exact h6
theorem LI_lane : ∀ d {τ : St} {n m W : Nat}, LI τ n m W → n + d = W → WW (laneN d n m τ) ∧ FR τ (laneN d n m τ) := by
  intro d
  induction d with
  | zero =>
    intro τ n m W h e
    have : n = W := by omega
    subst this
    exact LI_end h
  | succ d ih =>
    intro τ n m W h e
    unfold laneN
    by_cases q : τ 25 0 (τ 2 (τ 27 0 n) 9) = 0
    · rw [if_pos q]
      obtain ⟨g, f⟩ := LI_come h (by omega) q
      obtain ⟨a, b⟩ := ih g (by omega)
      exact ⟨a, FR_trans f b⟩
    · rw [if_neg q]
      obtain ⟨g, f⟩ := LI_stay h (by omega)
      obtain ⟨a, b⟩ := ih g (by omega)
      exact ⟨a, FR_trans f b⟩
theorem HX_laneS {σ : St} (w : WW σ) : HX σ (laneS σ) := by
  have h4 := w.2.1.2.2.2.1
  obtain ⟨a, b⟩ := LI_lane (σ 1 4 2) (LI_start w) (by omega)
  unfold laneS
  rw [h4]
  exact ⟨a, b.1, b.2⟩
section LL
variable {dE : Nat} {ad : Nat → Nat → Nat} {ρ : St} {μ : Mu} {h : Hp}
theorem RR.rem {h' : Hp} {n : Nat} {X : Int32} (r : RR dE ad ρ μ h) (w : WA ρ) (hn : n < ρ 1 4 2) (ht : ∀ a, hT h' a = hT h a) (hl : ∀ a, hL h' a = hL h a) (hi : ∀ a j, hI h' a j = if a = ad 1 4 ∧ j = 2 then nI (ρ 1 4 2 - 1) else if a = ad 1 4 ∧ j = 0 then X else hI h a j) (hr : ∀ a j, a ≠ ad 26 4 → hR h' a j = hR h a j) (hg : ∀ j, j < ρ 1 4 2 - 1 → hR h' (ad 26 4) j = hR h (ad 26 4) (if n ≤ j then j + 1 else j)) (hj : ∀ a j, hJ h' a j = hJ h a j) : RR dE ad (remS ρ n) μ h' := by
  have h0 := cap0 w (i := 4) (by decide) (by decide) hn
  have v1 := (w.2.2.1 4 (by decide) (by decide)).1
  have v26 : V ρ 26 4 := (w.2.2.2.2.2.2.2.2 4 (by decide) (by decide)).1.mpr h0
  have x9 : ∀ b k, remS ρ n 9 b k = ρ 9 b k := fun b k => rmy _ _ _ _ _ (by decide) (by decide)
  refine r.heapI (fun a b => by unfold V; rw [rmy _ _ _ _ _ (by decide) (by decide)]) (fun a b _ => by unfold lnL; simp only [x9]) ht hl (fun a b k va wa => ?_) (fun a b k x va wa => ?_) (fun b nb => ⟨fun k => ?_, fun k => ?_⟩) hj (rmy _ _ _ _ _ (by decide) (by decide))
  · rw [hi]
    by_cases z : a = 1 ∧ b = 4 ∧ k = 2
    · obtain ⟨rfl, rfl, rfl⟩ := z
      rw [if_pos ⟨rfl, rfl⟩, rm1]
    · rw [if_neg, if_neg, r.int va wa, rmx]
      · intro e; rw [e] at wa; cases wa
      · intro e
        by_cases q : b = 4
        · exact Or.inr (fun q2 => z ⟨e, q, q2⟩)
        · exact Or.inl q
      · rintro ⟨z1, z2⟩
        obtain ⟨e1, e2⟩ := r.inj va v1 z1
        rw [e1, z2] at wa
        cases wa
      · rintro ⟨z1, z2⟩
        obtain ⟨e1, e2⟩ := r.inj va v1 z1
        exact z ⟨e1, e2, z2⟩
  · by_cases z : a = 26 ∧ b = 4
    · obtain ⟨rfl, rfl⟩ := z
      have wa : (if k < remS ρ n 1 4 2 then some (some (elm (remS ρ n) 4 k)) else none) = some x := wa
      rw [rm1] at wa
      by_cases hk : k < ρ 1 4 2 - 1
      · rw [if_pos hk] at wa
        injection wa with wa
        have ee : elm (remS ρ n) 4 k = (2, if n ≤ k then ρ 26 4 (k + 1) else ρ 26 4 k) := by
          show (2, remS ρ n 26 4 k) = _
          rw [rm26]
        have key : ∀ k', k' < ρ 1 4 2 → V ρ 2 (ρ 26 4 k') ∧ hR h (ad 26 4) k' = some (ad 2 (ρ 26 4 k')) := by
          intro k' hk'
          have ce : cr ρ 26 4 k' = some (some (elm ρ 4 k')) := by show (if _ then _ else _) = _; rw [if_pos hk']
          exact ⟨r.rV v26 ce, r.ref v26 ce⟩
        rw [hg k hk]
        subst wa
        rw [ee]
        by_cases q : n ≤ k
        · rw [if_pos q, if_pos q]
          obtain ⟨f1, f2⟩ := key (k + 1) (by omega)
          exact ⟨fun p hp => by injection hp with hp; subst hp; exact f1, f2⟩
        · rw [if_neg q, if_neg q]
          obtain ⟨f1, f2⟩ := key k (by omega)
          exact ⟨fun p hp => by injection hp with hp; subst hp; exact f1, f2⟩
      · rw [if_neg hk] at wa
        cases wa
    · rw [hr _ _ (fun q => z (r.inj va v26 q))]
      refine r.2.2.2.1 a b k x va ?_
      rw [← wa]
      have e12 : ∀ a k, remS ρ n 12 a k = ρ 12 a k := fun a k => rmy _ _ _ _ _ (by decide) (by decide)
      have e25 : ∀ a k, remS ρ n 25 a k = ρ 25 a k := fun a k => rmy _ _ _ _ _ (by decide) (by decide)
      have e24 : ∀ k q, remS ρ n 24 k q = ρ 24 k q := fun k q => rmy _ _ _ _ _ (by decide) (by decide)
      have e2 : ∀ k, remS ρ n 2 k 5 = ρ 2 k 5 := fun k => rmy _ _ _ _ _ (by decide) (by decide)
      have e9 : ∀ k, remS ρ n 9 k 0 = ρ 9 k 0 := fun k => rmy _ _ _ _ _ (by decide) (by decide)
      by_cases e26 : a = 26
      · subst e26
        have b4 : b ≠ 4 := fun q => z ⟨rfl, q⟩
        show (if k < ρ 1 b 2 then some (some (elm ρ b k)) else none) = (if k < remS ρ n 1 b 2 then some (some (elm (remS ρ n) b k)) else none)
        rw [rms ρ n b b4]
        have : elm (remS ρ n) b k = elm ρ b k := by unfold elm; simp only [if_neg b4]
        rw [this]
      · unfold cr
        split
        all_goals first | rfl | exact absurd rfl e26 | simp only [e9, e25, e24, e2, e12]
  · rw [hi, if_neg, if_neg]
    · rintro ⟨z1, z2⟩
      exact nb _ _ v1 z1.symm
    · rintro ⟨z1, z2⟩
      exact nb _ _ v1 z1.symm
  · exact hr _ _ (fun e => nb _ _ v26 e.symm)
theorem p_rem (r : RR dE ad ρ μ h) (w : WA ρ) {n : Nat} (hn : n < ρ 1 4 2) {post : Nat → Hp → Prop} (hp : ∀ h', RR dE ad (remS ρ n) μ h' → post (ad 2 (ρ 26 4 n)) h') : wp_Jx4a65c_remove_915e3 h (ad 1 4) (nI n) post := by
  have h0 := cap0 w (i := 4) (by decide) (by decide) hn
  obtain ⟨s1, s2⟩ := siz w (i := 4) (by decide) (by decide)
  have v1 := (w.2.2.1 4 (by decide) (by decide)).1
  have v26 : V ρ 26 4 := (w.2.2.2.2.2.2.2.2 4 (by decide) (by decide)).1.mpr h0
  have t26 : hT h (ad 26 4) = 26 := r.tag v26
  have l26 : hL h (ad 26 4) = ρ 9 4 0 := r.len v26
  have i2 : hI h (ad 1 4) 2 = nI (ρ 1 4 2) := r.int v1 rfl
  have n126 : ad 26 4 ≠ ad 1 4 := r.ne v26 v1 (by decide)
  have en : nI (ρ 1 4 2) - 1 = nI (ρ 1 4 2 - 1) := nI_subN (b := 1) (by omega)
  unfold wp_Jx4a65c_remove_915e3 wp_J15_checkIndex_7cf53 wp_J3_checkIndex_8e157
  refine ⟨r.tag v1, _, i2, fun J hj9 => ⟨fun q => absurd q (nI_pos (by omega)), fun _ => ⟨fun _ => ?_, fun q => absurd (nI_lt hn (by omega)) q⟩⟩⟩
  refine ⟨_, r_1 r w (by decide) (by decide) h0, t26, n, rfl, by omega, by omega, _, r_26 r w (by decide) (by decide) h0 hn, ?_⟩
  unfold wp_Jx4a65c_fastRemove_b59b0
  refine ⟨r.tag v1, _, rfl, fun h3 e3 => ⟨nI (ρ 1 4 2), by rw [e3, hI_sI, if_neg (fun z => by cases z.2)]; exact i2, fun K hK => ?_⟩⟩
  have main : ∀ h34, (∀ a, hT h34 a = hT h a) → (∀ a, hL h34 a = hL h a) → (∀ a j, hI h34 a j = hI h3 a j) → (∀ a j, a ≠ ad 26 4 → hR h34 a j = hR h a j) → (∀ j, j < ρ 1 4 2 - 1 → hR h34 (ad 26 4) j = hR h (ad 26 4) (if n ≤ j then j + 1 else j)) → (∀ a j, hJ h34 a j = hJ h a j) → K h34 := by
    intro h34 ht hl hi hr hg hj0
    refine hK _ ⟨by rw [ht]; exact r.tag v1, fun h7 e7 => ⟨by rw [e7, hT_sI, ht]; exact t26, ρ 1 4 2 - 1, en, by omega, by rw [e7, hL_sI, hl, l26]; omega, fun h10 e10 => hp h10 ?_⟩⟩
    refine r.rem (X := hI h (ad 1 4) 0 + 1) w hn (fun a => by rw [e10, hT_sR, e7, hT_sI, ht]) (fun a => by rw [e10, hL_sR, e7, hL_sI, hl]) (fun a j => ?_) (fun a j q => ?_) (fun j hj => ?_) (fun a j => by rw [e10, hJ_sR, e7, hJ_sI, hj0])
    · rw [e10, hI_sR, e7, hI_sI, en, hi, e3, hI_sI]
    · rw [e10, hR_sR, if_neg (fun z => q z.1), e7, hR_sI, hr a j q]
    · rw [e10, hR_sR, if_neg (fun z => by have := z.2; omega), e7, hR_sI, hg j hj]
  have t3 : ∀ a, hT h3 a = hT h a := fun a => by rw [e3, hT_sI]
  have l3 : ∀ a, hL h3 a = hL h a := fun a => by rw [e3, hL_sI]
  have q3 : ∀ a j, hR h3 a j = hR h a j := fun a j => by rw [e3, hR_sI]
  refine ⟨fun q => main h3 t3 l3 (fun _ _ => rfl) (fun a j _ => q3 a j) (fun j hj => ?_) (fun a j => by rw [e3, hJ_sI]), fun q => ?_⟩
  · rw [en] at q
    have q := (nI_leI (by omega) (by omega)).mp q
    rw [if_neg (by omega), q3]
  · rw [en] at q
    have q : ¬ (ρ 1 4 2 - 1 ≤ n) := fun z => q ((nI_leI (by omega) (by omega)).mpr z)
    refine ⟨by rw [t3]; exact t26, n + 1, nI_1 n, by omega, n, rfl, by omega, ρ 1 4 2 - 1 - n, by rw [en, nI_subN (by omega)], by omega, by rw [l3, l26]; omega, by rw [l3, l26]; omega, fun i hi y hy => ?_, fun h14 e14 => main h14 (fun a => by rw [e14, hT_sA, t3]) (fun a => by rw [e14, hL_sA, l3]) (fun a j => by rw [e14, hI_sA]) (fun a j ne => by rw [e14, hR_sA, if_neg ne, q3]) (fun j hj => ?_) (fun a j => by rw [e14, hJ_sA, e3, hJ_sI])⟩
    · have hk : n + 1 + i < ρ 1 4 2 := by omega
      have ce : cr ρ 26 4 (n + 1 + i) = some (some (elm ρ 4 (n + 1 + i))) := by show (if _ then _ else _) = _; rw [if_pos hk]
      have rf := r.ref v26 ce
      rw [q3, rf] at hy
      injection hy with hy
      rw [t3, ← hy, r.tag (r.rV v26 ce)]
      exact elm_tag
    · rw [e14, hR_sA, if_pos rfl]
      by_cases z : n ≤ j
      · rw [pk_cpy_in (by omega) (by omega), if_pos z, q3]
        congr 1
        omega
      · rw [if_neg z, ← q3]
        exact if_neg (fun y => z y.1)
theorem p_isSt {s : Nat} (hs : s < 8) {post : Int32 → Prop} (hp : post (nI 1)) : wp_X5_isStation h (nI s) post := by
  have hs0 : ¬ 8 ≤ s := by omega
  unfold wp_X5_isStation
  simp (disch := omega) only [l0, l1, l2, l3, l4, l5, l6, l7, l8, l10, l20, l30, l40, l50, l99, l255, lm1, ex_nI, nI_add, nI_leI, nI_ltI, nI_eq, nI_eqNN, nI_NNeq, tN0, exists_eq_left', exists_eq_left, forall_eq, true_and, and_true, Option.some.injEq, reduceCtorEq, false_implies, implies_true, forall_const, not_false_eq_true, not_true_eq_false, lm1', l9, nI_mul, nI_subN, hs0, Nat.not_lt_zero]
  intro J hJ K hK
  exact hJ (nI 1) ⟨Or.inr rfl, hp⟩
theorem p_comeFromLane (r : RR dE ad ρ μ h) (ww : WW ρ) {post : Hp → Prop} (hp : ∀ h', RR dE ad (laneS ρ) μ h' → post h') : wp_X5_comeFromLane h (ad 7 0) post := by
  have w := ww.1.1
  have b30 : ρ 1 4 2 ≤ 30 := ww.1.2.1.2.2.2.2.1.2.2.2
  unfold wp_X5_comeFromLane
  refine ⟨t_7 r w, _, r_7_4 r w, t_1 r w (by decide) (by decide), t_1 r w (by decide) (by decide), _, i_1_2 r w (by decide) (by decide), fun J hJ => ?_⟩
  refine lpA (J := fun (x : Int32 × Hp) v => J x.1 v x.2) (x := (nI 0, h)) (fun x v hb => hJ x.1 v x.2 hb) (ρ 1 4 2) (fun n x => ∃ m τ, x.1 = nI m ∧ RR dE ad τ μ x.2 ∧ LI τ n m (ρ 1 4 2) ∧ laneN (ρ 1 4 2 - n) n m τ = laneS ρ) ⟨0, ρ, rfl, r, LI_start ww, by rw [laneS, ww.2.1.2.2.2.1, Nat.sub_zero]⟩ (fun n x hn e hst => ?_)
  obtain ⟨x1, h1⟩ := x
  obtain ⟨m, τ, e1, r', li, eN⟩ := e
  have e1 : x1 = nI m := e1
  subst e1
  have r' : RR dE ad τ μ h1 := r'
  have li0 := li
  obtain ⟨wi, wp, g1, g5, g6, ⟨a1, a2, a3, a4⟩, b, c, d, e⟩ := li
  have wt := wi.1
  intro L hL
  show (nI (ρ 1 4 2) ≤ nI n → L) ∧ _
  by_cases hn2 : n < ρ 1 4 2
  · refine ⟨fun q => absurd q (nI_ge (a := n) (b := ρ 1 4 2) hn2 (by omega)), fun _ => ?_⟩
    have hm : m < τ 1 4 2 := by omega
    refine ⟨t_7 r' wt, _, r_7_4 r' wt, t_1 r' wt (by decide) (by decide), t_1 r' wt (by decide) (by decide), _, i_1_2 r' wt (by decide) (by decide), fun q => absurd q (nI_ge hm (by omega)), fun _ => ?_⟩
    refine ⟨_, r_7_4 r' wt, t_1 r' wt (by decide) (by decide), p_getW r' wt hm ?_⟩
    have ec : τ 27 0 n = τ 26 4 m := by rw [e n (Nat.le_refl _) hn2, Nat.sub_self, Nat.add_zero]
    obtain ⟨hc, hw⟩ := b m hm
    have e4 : τ 2 (τ 26 4 m) 4 = τ 2 (τ 26 4 m) 9 := (g6 _ hc).1 (Or.inr hw)
    have s8 : τ 2 (τ 26 4 m) 9 < 8 := (wi.2.1.2.2.1 (τ 26 4 m)).2.2.2.2.2
    have ed : ρ 1 4 2 - n = (ρ 1 4 2 - (n + 1)) + 1 := by omega
    rw [ed] at eN
    unfold laneN at eN
    rw [ec] at eN
    refine ⟨t_2 r' wt hc, _, i_2_4 r' wt hc, ?_⟩
    rw [e4]
    refine p_isSt s8 (fun K hK M hM => ⟨fun q => absurd q (by decide), fun _ => ?_⟩)
    refine ⟨_, r_7_6 r' wt, _, i_2_4 r' wt hc, t_25 r' wt, τ 2 (τ 26 4 m) 9, by rw [e4], by omega, by rw [n_25 r' wt]; exact s8, _, r_25 r' wt, fun y => ?_, fun x23 y => ?_⟩
    · have y0 : τ 25 0 (τ 2 (τ 26 4 m) 9) = 0 := by
        by_cases z : τ 25 0 (τ 2 (τ 26 4 m) 9) = 0
        · exact z
        · rw [am1 z] at y; cases y
      rw [if_pos y0] at eN
      have li2 := LI_come li0 hn2 (by rw [ec]; exact y0)
      rw [ec] at li2
      refine ⟨_, r_7_4 r' wt, t_1 r' wt (by decide) (by decide), p_rem r' wt hm (fun h2 r2 => ?_)⟩
      have w2 : WA (remS τ m) := (WI_rem wi).1
      have hc2 : τ 26 4 m < remS τ m 1 2 2 := by rw [rms τ m 2 (by decide)]; exact hc
      have z2 : ∀ b k, remS τ m 2 b k = τ 2 b k := fun b k => rmy _ _ _ _ _ (by decide) (by decide)
      refine ⟨t_2 r2 w2 hc2, _, i_2_4 r2 w2 hc2, t_7 r2 w2, ?_⟩
      rw [z2, e4]
      refine p_enterLine0 r2 w2 hc2 (by rw [z2, hw]; decide) (by rw [z2, hw]; decide) s8 (fun h3 r3 => hK _ _ ?_)
      have := hst (nI m, h3) hn2 ⟨m, _, rfl, r3, li2.1, eN⟩
      rw [← nI_1 n] at this
      exact this
    · have y0 : ¬ τ 25 0 (τ 2 (τ 26 4 m) 9) = 0 := fun z => by rw [am0 z] at y; cases y
      rw [if_neg y0] at eN
      have li2 := LI_stay li0 hn2
      rw [ec] at li2
      have r3 : RR dE ad (up τ 27 0 m (τ 26 4 m)) μ h1 := r'.irr rfl rfl
      refine hM (hK _ _ ?_)
      have := hst (nI (m + 1), h1) hn2 ⟨m + 1, _, rfl, r3, li2.1, eN⟩
      rw [← nI_1 n, ← nI_1 m] at this
      exact this
  · have : n = ρ 1 4 2 := by omega
    subst this
    refine ⟨fun _ => hL (hp h1 ?_), fun q => absurd (nI_le (Nat.le_refl _) (by omega)) q⟩
    rw [Nat.sub_self] at eN
    have eN : up τ 10 0 1 m = laneS ρ := eN
    rw [← eN]
    exact r'.irr rfl rfl
end LL
