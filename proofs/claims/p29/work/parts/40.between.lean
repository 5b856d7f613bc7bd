/-! what the calls leave -/
theorem i_dist (b x y : Int32) : (b ||| x) &&& y = (b &&& y) ||| (x &&& y) := by
  apply Int32.toBitVec_inj.mp
  simp only [Int32.toBitVec_and, Int32.toBitVec_or]
  ext i hi
  simp only [BitVec.getElem_and, BitVec.getElem_or]
  exact Bool.and_or_distrib_right _ _ _
theorem i_absorb (b x : Int32) : (b ||| x) &&& x = x := by
  apply Int32.toBitVec_inj.mp
  simp only [Int32.toBitVec_and, Int32.toBitVec_or]
  ext i hi
  simp only [BitVec.getElem_and, BitVec.getElem_or]
  cases b.toBitVec[i] <;> cases x.toBitVec[i] <;> rfl
theorem sh_ne : ∀ c, c < 30 → (nI 1 <<< (nI c &&& 31)) ≠ nI 0 := by decide +kernel
theorem sh_and : ∀ c, c < 30 → ∀ d, d < 30 → c ≠ d → (nI 1 <<< (nI c &&& 31)) &&& (nI 1 <<< (nI d &&& 31)) = nI 0 := by decide +kernel
theorem WSg_sign {σ : St} (g : WSg σ) {n c : Nat} (hc : c < 30) : WSg (signS σ n c) := by
  intro m d hd
  have e28 : signS σ n c 28 m d = if m = n ∧ d = c then 1 else σ 28 m d := by simp [signS, up]
  have e3 : signS σ n c 3 m 2 = if m = n then (signI σ n c).toBitVec.toNat else σ 3 m 2 := by simp [signS, up]
  unfold sgnd
  rw [e28, e3]
  obtain ⟨g1, g2⟩ := g m d hd
  unfold sgnd at g2
  by_cases em : m = n
  · subst em
    rw [if_pos rfl, xN]
    unfold signI
    by_cases ed : d = c
    · subst ed
      rw [if_pos ⟨rfl, rfl⟩, i_absorb]
      refine ⟨Nat.le_refl 1, ?_⟩
      simp [sh_ne d hd]
    · rw [if_neg (fun z => ed z.2), i_dist, sh_and c hc d hd (fun z => ed z.symm)]
      refine ⟨g1, ?_⟩
      have : (nI (σ 3 m 2) &&& (nI 1 <<< (nI d &&& 31))) ||| nI 0 = nI (σ 3 m 2) &&& (nI 1 <<< (nI d &&& 31)) := Int32.or_zero
      rw [this]
      exact g2
  · rw [if_neg em, if_neg (fun z => em z.1)]
    exact ⟨g1, g2⟩
theorem WW_kind {σ : St} (w : WW σ) {k s a b f : Nat} (hs : s ≤ 4) (hf : f ≤ 1) : WW (kindS σ k s a b f) :=
  WW_up (WW_up (WW_up (WW_up w (by simp [okU]; omega) (by simp)) (by simp [okU]) (by simp)) (by simp [okU]) (by simp)) (by simp [okU]; omega) (by simp)
theorem WW_recall {σ : St} (w : WW σ) {l : Nat} (hl : l < σ 1 1 2) : WW (recallS σ l) := WW_up w (by simp [okU, hl]) (by simp)
theorem WW_fault {σ : St} (w : WW σ) {c : Nat} (hc : c < σ 1 2 2) : WW (faultS σ c) := WW_up w (by simp [okU, hc]) (by simp)
theorem WW_flash {σ : St} (w : WW σ) {c n : Nat} (hc : c < σ 1 2 2) (hn : n < σ 1 3 2) : WW (flashS σ c n) :=
  WW_up (WW_up (WW_up w (by simp [okU, hc]; omega) (by simp)) (by simp [okU, up, hc]) (by simp)) (by simp [okU, up, hc]) (by simp)
theorem WW_sign {σ : St} (w : WW σ) {n c : Nat} (hn : n < σ 1 3 2) (hc : c < 30) : WW (signS σ n c) := by
  obtain ⟨⟨a, b, g, d, e⟩, wl, wp⟩ := w
  have z : ∀ t i j, t ≠ 28 → ¬ (t = 3 ∧ j = 2) → signS σ n c t i j = σ t i j := fun t i j h1 h2 => by
    unfold signS
    rw [up_ne (fun y => h1 y.1), up_ne (fun y => h2 ⟨y.1, y.2.2⟩)]
  have zz : ∀ t, t ≠ 28 → t ≠ 3 → ∀ i j, signS σ n c t i j = σ t i j := fun t h1 h2 i j => z t i j h1 (fun y => h2 y.1)
  have z30 : ∀ m, signS σ n c 3 m 0 = σ 3 m 0 := fun m => z 3 m 0 (by decide) (by simp)
  refine ⟨⟨WA_up (WA_up a (by simp) (by decide) (by decide) (by decide)) (by simp) (by decide) (by decide) (by decide), ?_, WSg_sign g hc, WC_up (WC_up d (by decide) (by decide)) (by decide) (by decide), ?_⟩, WL_cong wl (fun _ _ _ => zz _ (by decide) (by decide) _ _) (fun _ => zz _ (by decide) (by decide) _ _) (fun _ => zz _ (by decide) (by decide) _ _) (fun _ => zz _ (by decide) (by decide) _ _) (fun _ => zz _ (by decide) (by decide) _ _) (zz _ (by decide) (by decide) _ _) (zz _ (by decide) (by decide) _ _), WPk_up (WPk_up wp (by decide)) (by decide)⟩
  · unfold WV at *
    simp only [zz 1 (by decide) (by decide), zz 2 (by decide) (by decide), zz 4 (by decide) (by decide), zz 5 (by decide) (by decide), zz 19 (by decide) (by decide), zz 24 (by decide) (by decide), zz 25 (by decide) (by decide), z30]
    exact b
  · obtain ⟨e1, e2, e3, e4⟩ := e
    unfold WZ
    simp only [zz 1 (by decide) (by decide), zz 2 (by decide) (by decide), zz 5 (by decide) (by decide), zz 6 (by decide) (by decide), zz 19 (by decide) (by decide), zz 24 (by decide) (by decide)]
    refine ⟨e1, e2, fun m j hm => ?_, e4⟩
    have ne : m ≠ n := by omega
    have q3 : signS σ n c 3 m j = σ 3 m j := by unfold signS; rw [up_ne (fun y => by cases y.1), up_ne (fun y => ne y.2.1)]
    have q28 : signS σ n c 28 m j = σ 28 m j := by unfold signS; rw [up_ne (fun y => ne y.2.1), up_ne (fun y => by cases y.1)]
    rw [q3, q28]
    exact e3 m j hm
def KF (σ τ : St) : Prop := (∀ b k, τ 19 b k = σ 19 b k) ∧ τ 7 0 7 = σ 7 0 7
theorem KF_refl {σ : St} : KF σ σ := ⟨fun _ _ => rfl, rfl⟩
theorem KF_trans {σ τ υ : St} (a : KF σ τ) (b : KF τ υ) : KF σ υ := ⟨fun x y => (b.1 x y).trans (a.1 x y), b.2.trans a.2⟩
theorem KF_up {σ τ : St} {t i j v : Nat} (a : KF σ τ) (h : t ≠ 19 ∧ ¬ (t = 7 ∧ j = 7)) : KF σ (up τ t i j v) :=
  KF_trans a ⟨fun _ _ => up_ne (fun z => h.1 z.1.symm), up_ne (fun z => h.2 ⟨z.1.symm, z.2.2.symm⟩)⟩
theorem KF_add {σ τ : St} {i : Nat} (a : KF σ τ) : KF σ (addS τ i) := KF_up (KF_up (KF_up a (by simp)) (by simp)) (by simp)
theorem KF_clr {σ τ : St} {s : Nat} (a : KF σ τ) : KF σ (clr τ s) := KF_up a (by simp)
theorem KF_line {σ τ : St} {c s : Nat} (a : KF σ τ) : KF σ (toLine τ c s) := KF_up (KF_up (KF_up (KF_up a (by simp)) (by simp)) (by simp)) (by simp)
theorem KF_lane {σ τ : St} {c s : Nat} (a : KF σ τ) : KF σ (toLane τ c s) := KF_up (KF_add (KF_up (KF_up (KF_up (KF_up (KF_up a (by simp)) (by simp)) (by simp)) (by simp)) (by simp))) (by simp)
theorem KF_pick {σ τ : St} {c k l : Nat} (a : KF σ τ) : KF σ (newPick τ c k l) := KF_add (KF_up (KF_up (KF_up (KF_up a (by simp)) (by simp)) (by simp)) (by simp))
theorem KF_back {σ τ : St} {s : Nat} (a : KF σ τ) : KF σ (backS τ s) := by
  unfold backS
  repeat' split
  · exact a
  · exact KF_lane (KF_clr a)
  · exact KF_up (KF_lane (KF_clr a)) (by simp)
  · exact a
theorem KF_backN {n : Nat} : ∀ {σ τ : St}, KF σ τ → KF σ (backN n τ) := by
  induction n with
  | zero => exact fun a => a
  | succ n ih => exact fun a => ih (KF_back a)
theorem KF_leave {σ τ : St} (a : KF σ τ) : KF σ (leaveS τ) := by
  unfold leaveS
  split
  · exact KF_up (KF_up (KF_clr a) (by simp)) (by simp)
  · exact a
theorem KF_move {σ τ : St} {s : Nat} (a : KF σ τ) : KF σ (moveS τ s) := by
  unfold moveS
  split
  · exact KF_line (KF_clr a)
  · exact a
theorem KF_moveN {n : Nat} : ∀ {σ τ : St}, KF σ τ → KF σ (moveN n τ) := by
  induction n with
  | zero => exact fun a => a
  | succ n ih => exact fun a => ih (KF_move a)
theorem KF_rem {σ τ : St} {n : Nat} (a : KF σ τ) : KF σ (remS τ n) :=
  KF_trans a ⟨fun _ _ => rmy _ _ _ _ _ (by decide) (by decide), rmy _ _ _ _ _ (by decide) (by decide)⟩
theorem KF_laneN {σ : St} : ∀ d {τ : St} {n m : Nat}, KF σ τ → KF σ (laneN d n m τ) := by
  intro d
  induction d with
  | zero => exact fun a => KF_up a (by simp)
  | succ d ih =>
    intro τ n m a
    unfold laneN
    split
    · exact ih (KF_line (KF_rem a))
    · exact ih (KF_up a (by simp))
theorem KF_orders {σ τ : St} (a : KF σ τ) : KF σ (ordersS τ) := by
  unfold ordersS
  split
  · exact KF_line (KF_up a (by simp))
  · exact a
theorem KF_take {σ τ : St} {c k : Nat} (a : KF σ τ) : KF σ (takeS τ c k) := by
  unfold takeS
  split
  · exact a
  · exact KF_pick (KF_up (KF_up (KF_up a (by simp)) (by simp)) (by simp))
theorem KF_pickN {σ τ : St} {c k : Nat} (a : KF σ τ) : ∀ d l, KF σ (pickN τ c k l d) := by
  intro d
  induction d with
  | zero => exact fun _ => a
  | succ d ih =>
    intro l
    unfold pickN
    split
    · exact KF_pick (KF_up (KF_up (KF_up a (by simp)) (by simp)) (by simp))
    · exact ih (l + 1)
theorem KF_fit1 {σ τ : St} {c k : Nat} (a : KF σ τ) : KF σ (fit1 τ c k) := KF_pickN (KF_take a) _ _
theorem KF_fitK {σ τ : St} {c s : Nat} (a : KF σ τ) : ∀ k, KF σ (fitK τ c s k) := by
  intro k
  induction k with
  | zero => exact a
  | succ k ih =>
    unfold fitK
    split
    · exact KF_fit1 ih
    · exact ih
theorem KF_test {σ τ : St} {c : Nat} (a : KF σ τ) : KF σ (testS τ c) := by
  unfold testS
  split
  · exact KF_up (KF_up (KF_up a (by simp)) (by simp)) (by simp)
  · exact KF_up (KF_up (KF_up (KF_up a (by simp)) (by simp)) (by simp)) (by simp)
theorem KF_work {σ τ : St} {s : Nat} (a : KF σ τ) : KF σ (workS τ s) := by
  unfold workS
  repeat' split
  · exact a
  · exact KF_fitK a _
  · exact KF_test a
  · exact a
theorem KF_workN {σ τ : St} (a : KF σ τ) : ∀ s, KF σ (workN τ s) := by
  intro s
  induction s with
  | zero => exact a
  | succ s ih => exact KF_work ih
theorem KF_inn {σ : St} : KF σ (workN (innS σ) 8) := KF_workN (KF_orders (KF_laneN _ (KF_moveN (KF_leave (KF_backN KF_refl))))) 8
theorem takt_19 {σ : St} (b k : Nat) : taktS σ 19 b k = σ 19 b k := (up_ne (fun z => by cases z.1)).trans (KF_inn.1 b k)
theorem takt_7 {σ : St} : taktS σ 7 0 7 = σ 7 0 7 + 1 := by
  unfold taktS
  rw [up_eq, KF_inn.2]
theorem taktN_19 {σ : St} : ∀ n b k, taktN n σ 19 b k = σ 19 b k := by
  intro n
  induction n with
  | zero => exact fun _ _ => rfl
  | succ n ih => exact fun b k => (takt_19 b k).trans (ih b k)
theorem taktN_7 {σ : St} : ∀ n, taktN n σ 7 0 7 = σ 7 0 7 + n := by
  intro n
  induction n with
  | zero => rfl
  | succ n ih => exact takt_7.trans (by rw [ih]; omega)
section KL
variable {dE : Nat} {h : Hp}
theorem c_takt0 {ad : Nat → Nat → Nat} {y : Int32} (hx : NR y 1 20) {k1 n1 : Nat} (h1 : 1 ≤ k1) (h2 : 6 ≤ n1) {post : Int32 → Hp → Prop} {px : String → Hp → Prop} (hp : px XA h) : wp_X5_takt dE k1 n1 h (ad 7 0) y post px := by
  unfold wp_X5_takt
  exact fun K hK => ⟨fun _ => hK ⟨h1, h2, hp⟩, fun q => ⟨fun q2 => absurd q2 (ix_nle (NR_lt hx q)), fun _ => hK ⟨h1, h2, hp⟩⟩⟩
end KL
