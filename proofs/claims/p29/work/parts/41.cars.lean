/-! what holds of each car between the calls -/
def YC (σ : St) (c : Nat) : Prop := (σ 2 c 3 = 0 → σ 2 c 6 = 0 ∧ ∀ k, σ 24 c k = 0) ∧ (σ 2 c 3 = 3 → σ 2 c 6 ≠ 0) ∧ (σ 2 c 3 = 2 → σ 2 c 4 ≤ 5) ∧ (σ 2 c 3 = 1 → σ 25 0 (σ 2 c 4) = c + 1)
def WY (σ : St) : Prop := ∀ c, YC σ c
def WYx (σ : St) (c : Nat) : Prop := ∀ x, x ≠ c → YC σ x
theorem YC_cong {σ τ : St} {c : Nat} (y : YC σ c) (e3 : τ 2 c 3 = σ 2 c 3) (e4 : τ 2 c 4 = σ 2 c 4) (e6 : τ 2 c 6 = σ 2 c 6) (e24 : ∀ k, τ 24 c k = σ 24 c k) (e25 : σ 2 c 3 = 1 → τ 25 0 (σ 2 c 4) = σ 25 0 (σ 2 c 4)) : YC τ c := by
  obtain ⟨y1, y2, y3, y4⟩ := y
  unfold YC
  rw [e3, e4, e6]
  refine ⟨fun z => ⟨(y1 z).1, fun k => by rw [e24]; exact (y1 z).2 k⟩, y2, y3, fun z => by rw [e25 z]; exact y4 z⟩
/-- a car on the line: parts and tests may change -/
theorem YC_on {σ τ : St} {c : Nat} (y : YC σ c) (h1 : σ 2 c 3 = 1) (e3 : τ 2 c 3 = σ 2 c 3) (e4 : τ 2 c 4 = σ 2 c 4) (e25 : ∀ j, τ 25 0 j = σ 25 0 j) : YC τ c := by
  unfold YC
  rw [e3, e4, e25, h1]
  exact ⟨fun z => by omega, fun z => by omega, fun z => by omega, fun _ => y.2.2.2 h1⟩
theorem WY_up {σ : St} {t i j v : Nat} (y : WY σ) (h : t ≠ 24 ∧ t ≠ 25 ∧ (t = 2 → j ≠ 3 ∧ j ≠ 4 ∧ j ≠ 6)) : WY (up σ t i j v) := fun c =>
  YC_cong (y c) (up_ne (fun z => (h.2.2 z.1.symm).1 z.2.2.symm)) (up_ne (fun z => (h.2.2 z.1.symm).2.1 z.2.2.symm)) (up_ne (fun z => (h.2.2 z.1.symm).2.2 z.2.2.symm)) (fun k => up_ne (fun z => h.1 z.1.symm)) (fun _ => up_ne (fun z => h.2.1 z.1.symm))
theorem WYx_up {σ : St} {t i j v c : Nat} (y : WYx σ c) (h : t ≠ 24 ∧ t ≠ 25 ∧ (t = 2 → i = c ∨ (j ≠ 3 ∧ j ≠ 4 ∧ j ≠ 6))) : WYx (up σ t i j v) c := fun x hx => by
  have g : ∀ j', j' = 3 ∨ j' = 4 ∨ j' = 6 → up σ t i j v 2 x j' = σ 2 x j' := fun j' hj => up_ne (fun z => by
    rcases h.2.2 z.1.symm with e | e
    · exact hx (z.2.1.trans e)
    · have := z.2.2; omega)
  exact YC_cong (y x hx) (g 3 (by omega)) (g 4 (by omega)) (g 6 (by omega)) (fun k => up_ne (fun z => h.1 z.1.symm)) (fun _ => up_ne (fun z => h.2.1 z.1.symm))
theorem WY_add {σ : St} {i : Nat} (y : WY σ) : WY (addS σ i) := WY_up (WY_up (WY_up y (by simp)) (by simp)) (by simp)
theorem WYx_add {σ : St} {i c : Nat} (y : WYx σ c) : WYx (addS σ i) c := WYx_up (WYx_up (WYx_up y (by simp)) (by simp)) (by simp)
theorem WY_clr {σ : St} {s c : Nat} (y : WY σ) (e : σ 25 0 s = c + 1) : WYx (clr σ s) c := fun x hx => by
  refine YC_cong (y x) (cx _ _ _ _ _ (by decide)) (cx _ _ _ _ _ (by decide)) (cx _ _ _ _ _ (by decide)) (fun k => cx _ _ _ _ _ (by decide)) (fun z => ?_)
  rw [c25, if_neg]
  intro q
  have := (y x).2.2.2 z
  rw [q, e] at this
  omega
theorem WY_line {σ : St} {c s : Nat} (y : WYx σ c) (e : σ 25 0 s = 0) : WY (toLine σ c s) := fun x => by
  by_cases hx : x = c
  · subst hx
    unfold YC
    rw [tl3, if_pos rfl, tl4, if_pos rfl, tl25, if_pos rfl]
    exact ⟨fun z => by omega, fun z => by omega, fun z => by omega, fun _ => rfl⟩
  · refine YC_cong (y x hx) (by rw [tl3, if_neg hx]) (by rw [tl4, if_neg hx]) (tl2 _ _ _ _ _ (by decide)) (fun k => tlx _ _ _ _ _ _ (by decide)) (fun z => ?_)
    rw [tl25, if_neg]
    intro q
    have := (y x hx).2.2.2 z
    rw [q, e] at this
    omega
theorem YC_x {σ : St} {c : Nat} (y : WYx σ c) (h : YC σ c) : WY σ := fun x => by
  by_cases hx : x = c
  · rw [hx]; exact h
  · exact y x hx
theorem WY_lane {σ : St} {c s : Nat} (y : WYx σ c) (hs : s ≤ 5) : WY (toLane σ c s) := by
  refine YC_x (WYx_up (WYx_add (WYx_up (WYx_up (WYx_up (WYx_up (WYx_up y (by simp)) (by simp)) (by simp)) (by simp)) (by simp))) (by simp)) ?_
  have e3 : toLane σ c s 2 c 3 = 2 := by simp [toLane, addS, up]
  have e4 : toLane σ c s 2 c 4 = s := by simp [toLane, addS, up]
  unfold YC
  rw [e3, e4]
  exact ⟨fun z => by omega, fun z => by omega, fun _ => hs, fun z => by omega⟩
theorem WY_gone {σ : St} {c s : Nat} (y : WY σ) (e : σ 25 0 s = c + 1) (h6 : σ 2 c 6 ≠ 0) : WY (goneS σ c s) := by
  refine YC_x (WYx_up (WYx_up (WY_clr y e) (by simp)) (by simp)) ?_
  have e3 : goneS σ c s 2 c 3 = 3 := by simp [goneS, up]
  have e6 : goneS σ c s 2 c 6 = σ 2 c 6 := by simp [goneS, clr, up]
  unfold YC
  rw [e3, e6]
  exact ⟨fun z => by omega, fun _ => h6, fun z => by omega, fun z => by omega⟩
theorem low5 {σ : St} (v : WV σ) {c : Nat} : ∀ n, low σ c n = 8 ∨ low σ c n < 5 := by
  intro n
  induction n with
  | zero => exact Or.inl rfl
  | succ n ih =>
    have := (v.1 n).1
    unfold low
    repeat' split
    · exact Or.inr this
    · exact ih
    · exact ih
theorem WY_back {σ : St} (w : WV σ) (y : WY σ) {s : Nat} (hs : s < 8) : WY (backS σ s) := by
  unfold backS
  by_cases z : σ 25 0 s = 0
  · rw [if_pos z]; exact y
  · rw [if_neg z]
    have e : σ 25 0 s = σ 25 0 s - 1 + 1 := by omega
    have yx := WY_clr y e
    by_cases q : low σ (σ 25 0 s - 1) 10 < s
    · rw [if_pos q]
      exact WY_lane yx (by rcases low5 w (c := σ 25 0 s - 1) 10 with h | h <;> omega)
    · rw [if_neg q]
      split
      · exact WY_up (WY_lane yx (by omega)) (by simp)
      · exact y
theorem WY_backN {n : Nat} : ∀ {σ : St}, WW σ → WY σ → n ≤ 8 → WY (backN n σ) := by
  induction n with
  | zero => exact fun _ y _ => y
  | succ n ih => exact fun w y hn => ih (HX_backS w (by omega)).1 (WY_back w.1.2.1 y (by omega)) (by omega)
theorem WY_leave {σ : St} (y : WY σ) : WY (leaveS σ) := by
  unfold leaveS
  split
  · rename_i h
    unfold leaveB at h
    simp only [Bool.and_eq_true, decide_eq_true_eq] at h
    exact WY_gone y (by omega) h.1.2
  · exact y
theorem WY_move {σ : St} (y : WY σ) {s : Nat} : WY (moveS σ s) := by
  unfold moveS
  split
  · rename_i h
    refine WY_line (WY_clr y (by omega)) ?_
    rw [c25]
    split
    · rfl
    · exact h.2.1
  · exact y
theorem WY_moveN {n : Nat} : ∀ {σ : St}, WY σ → WY (moveN n σ) := by
  induction n with
  | zero => exact fun y => y
  | succ n ih => exact fun y => ih (WY_move y)
theorem WY_rem {σ : St} {n : Nat} (y : WY σ) : WY (remS σ n) := fun c => YC_cong (y c) (rmy _ _ _ _ _ (by decide) (by decide)) (rmy _ _ _ _ _ (by decide) (by decide)) (rmy _ _ _ _ _ (by decide) (by decide)) (fun k => rmy _ _ _ _ _ (by decide) (by decide)) (fun _ => rmy _ _ _ _ _ (by decide) (by decide))
theorem WY_laneN : ∀ d {σ : St} {n m : Nat}, WY σ → WY (laneN d n m σ) := by
  intro d
  induction d with
  | zero => exact fun y => WY_up y (by simp)
  | succ d ih =>
    intro σ n m y
    unfold laneN
    split
    · rename_i h
      exact ih (WY_line (fun x _ => WY_rem y x) (by rw [rmy _ _ _ _ _ (by decide) (by decide)]; exact h))
    · exact ih (WY_up y (by simp))
theorem WY_orders {σ : St} (y : WY σ) : WY (ordersS σ) := by
  unfold ordersS
  split
  · rename_i h
    exact WY_line (fun x _ => WY_up y (by simp) x) ((up_ne (fun z => by cases z.1)).trans h.1)
  · exact y
/-- work at one car -/
def FF (σ τ : St) (c : Nat) : Prop := (∀ x j, x ≠ c → τ 24 x j = σ 24 x j ∧ τ 2 x j = σ 2 x j) ∧ (τ 2 c 3 = σ 2 c 3 ∧ τ 2 c 4 = σ 2 c 4) ∧ ∀ j, τ 25 0 j = σ 25 0 j
theorem FF_refl {σ : St} {c : Nat} : FF σ σ c := ⟨fun _ _ _ => ⟨rfl, rfl⟩, ⟨rfl, rfl⟩, fun _ => rfl⟩
theorem FF_up {σ τ : St} {t i j v c : Nat} (f : FF σ τ c) (h : (t = 24 → i = c) ∧ t ≠ 25 ∧ (t = 2 → i = c ∧ j ≠ 3 ∧ j ≠ 4)) : FF σ (up τ t i j v) c := by
  obtain ⟨f1, ⟨f2, f3⟩, f4⟩ := f
  refine ⟨fun x j' hx => ⟨?_, ?_⟩, ⟨?_, ?_⟩, fun j' => ?_⟩
  · rw [up_ne (fun z => hx (z.2.1.trans (h.1 z.1.symm)))]; exact (f1 x j' hx).1
  · rw [up_ne (fun z => hx (z.2.1.trans (h.2.2 z.1.symm).1))]; exact (f1 x j' hx).2
  · rw [up_ne (fun z => (h.2.2 z.1.symm).2.1 z.2.2.symm)]; exact f2
  · rw [up_ne (fun z => (h.2.2 z.1.symm).2.2 z.2.2.symm)]; exact f3
  · rw [up_ne (fun z => h.2.1 z.1.symm)]; exact f4 j'
theorem FF_pick {σ τ : St} {c k l : Nat} (f : FF σ τ c) : FF σ (newPick τ c k l) c := FF_up (FF_up (FF_up (FF_up (FF_up (FF_up (FF_up f (by simp)) (by simp)) (by simp)) (by simp)) (by simp)) (by simp)) (by simp)
theorem FF_take {σ τ : St} {c k : Nat} (f : FF σ τ c) : FF σ (takeS τ c k) c := by
  unfold takeS
  split
  · exact f
  · exact FF_pick (FF_up (FF_up (FF_up f (by simp)) (by simp)) (by simp))
theorem FF_pickN {σ τ : St} {c k : Nat} (f : FF σ τ c) : ∀ d l, FF σ (pickN τ c k l d) c := by
  intro d
  induction d with
  | zero => exact fun _ => f
  | succ d ih =>
    intro l
    unfold pickN
    split
    · exact FF_pick (FF_up (FF_up (FF_up f (by simp)) (by simp)) (by simp))
    · exact ih (l + 1)
theorem FF_fitK {σ τ : St} {c s : Nat} (f : FF σ τ c) : ∀ k, FF σ (fitK τ c s k) c := by
  intro k
  induction k with
  | zero => exact f
  | succ k ih =>
    unfold fitK
    split
    · exact FF_pickN (FF_take ih) _ _
    · exact ih
theorem FF_test {σ τ : St} {c : Nat} (f : FF σ τ c) : FF σ (testS τ c) c := by
  unfold testS
  split
  · exact FF_up (FF_up (FF_up f (by simp)) (by simp)) (by simp)
  · exact FF_up (FF_up (FF_up (FF_up f (by simp)) (by simp)) (by simp)) (by simp)
theorem WY_FF {σ τ : St} {c : Nat} (y : WY σ) (h1 : σ 2 c 3 = 1) (f : FF σ τ c) : WY τ := fun x => by
  by_cases hx : x = c
  · subst hx
    exact YC_on (y x) h1 f.2.1.1 f.2.1.2 f.2.2
  · exact YC_cong (y x) (f.1 x 3 hx).2 (f.1 x 4 hx).2 (f.1 x 6 hx).2 (fun k => (f.1 x k hx).1) (fun _ => f.2.2 _)
theorem WY_work {σ : St} (w : WW σ) (y : WY σ) {s : Nat} : WY (workS σ s) := by
  unfold workS
  by_cases z : σ 25 0 s = 0
  · rw [if_pos z]; exact y
  · rw [if_neg z]
    have h1 := (w.2.1.1 s z).2.2.1
    repeat' split
    · exact WY_FF y h1 (FF_fitK FF_refl 10)
    · exact WY_FF y h1 (FF_test FF_refl)
    · exact y
theorem WY_workN {σ : St} (w : WW σ) (hb : σ 1 5 2 < 19000000) (y : WY σ) : ∀ s, WY (workN σ s) := by
  intro s
  induction s with
  | zero => exact y
  | succ s ih => exact WY_work (GX_workN w hb s).1 ih
theorem WY_takt {σ : St} (w : WW σ) (hb : σ 1 5 2 < 19000000) (y : WY σ) : WY (taktS σ) := by
  have h := HX_inn w
  refine WY_up (WY_workN h.1 (by rw [h.2.1 5 (by decide)]; exact hb) ?_ 8) (by simp)
  exact WY_orders (WY_laneN _ (WY_moveN (WY_leave (WY_backN w y (Nat.le_refl _)))))
theorem WY_taktN {σ : St} (w : WW σ) (hb : σ 1 5 2 < 18000000) (y : WY σ) : ∀ n, n ≤ 20 → WY (taktN n σ) := by
  intro n
  induction n with
  | zero => exact fun _ => y
  | succ n ih =>
    intro hn
    have g := TX_taktN w hb n (by omega)
    exact WY_takt g.1 (by have := g.2.2.2.1; omega) (ih (by omega))
theorem WY_flash {σ : St} (y : WY σ) {c n : Nat} (h : σ 2 c 3 = 1) : WY (flashS σ c n) := WY_FF y h (FF_up (FF_up (FF_up FF_refl (by simp)) (by simp)) (by simp))
theorem WY_order {σ : St} (w : WW σ) (y : WY σ) {o : Nat} : WY (orderS σ o) := by
  have z := w.1.2.2.2.2.2.1 (σ 1 2 2)
  refine WY_add (YC_x (c := σ 1 2 2) (WYx_up (WYx_up (WYx_up (WYx_up (WYx_up (WYx_up (WYx_up (WYx_up (WYx_up (WYx_up (WYx_up (WYx_up (fun x _ => y x) (by simp)) (by simp)) (by simp)) (by simp)) (by simp)) (by simp)) (by simp)) (by simp)) (by simp)) (by simp)) (by simp)) (by simp)) ?_)
  have e3 : orderI σ (σ 1 2 2) o 2 (σ 1 2 2) 3 = 0 := by simp [orderI, up]
  have e6 : orderI σ (σ 1 2 2) o 2 (σ 1 2 2) 6 = 0 := by simp [orderI, up]
  have e24 : ∀ k, orderI σ (σ 1 2 2) o 24 (σ 1 2 2) k = 0 := fun k => by
    have := (z k (Nat.le_refl _)).2
    simp [orderI, up, this]
  unfold YC
  rw [e3, e6]
  exact ⟨fun _ => ⟨rfl, e24⟩, fun z => by omega, fun z => by omega, fun z => by omega⟩
theorem WY_imgV {σ τ : St} {c n : Nat} (y : WY τ) : ∀ k, WY (imgV σ c n k τ) := by
  intro k
  induction k with
  | zero => exact y
  | succ k ih => exact WY_up ih (by simp)
theorem WY_img {σ : St} (y : WY σ) {c : Nat} : WY (imgS σ c) := WY_add (WY_imgV (WY_up (WY_up (WY_up (WY_up (WY_up (WY_up y (by simp)) (by simp)) (by simp)) (by simp)) (by simp)) (by simp)) 10)
theorem WY_lot {σ : St} (y : WY σ) {k v u : Nat} : WY (lotS σ k v u) := WY_add (WY_up (WY_up (WY_up (WY_up (WY_up (WY_up y (by simp)) (by simp)) (by simp)) (by simp)) (by simp)) (by simp))
/-- what holds between the calls -/
def WE (σ : St) : Prop := WW σ ∧ WD σ ∧ WY σ
/-- what a call leaves: at most n picks more, at most 20 takts more -/
def ST (σ S : St) (n : Nat) : Prop := WE S ∧ S 1 5 2 ≤ σ 1 5 2 + n ∧ σ 9 5 0 ≤ S 9 5 0 ∧ σ 7 0 7 ≤ S 7 0 7 ∧ S 7 0 7 ≤ σ 7 0 7 + 20
theorem ST_refl {σ : St} (w : WE σ) : ST σ σ 0 := ⟨w, Nat.le_refl _, Nat.le_refl _, Nat.le_refl _, by omega⟩
theorem ST_of {σ S : St} (w : WE σ) (ww : WW S) (k : KF σ S) (y : WY S) (e3 : S 1 3 2 = σ 1 3 2) (h1 : S 1 5 2 = σ 1 5 2) (h2 : S 9 5 0 = σ 9 5 0) : ST σ S 0 := ⟨⟨ww, WD_cong w.2.1 k.1 e3, y⟩, Nat.le_of_eq h1, Nat.le_of_eq h2.symm, Nat.le_of_eq k.2.symm, by rw [k.2]; omega⟩
theorem ST_takt {σ : St} (w : WE σ) (hb : σ 1 5 2 < 18000000) {t : Nat} (ht : t ≤ 20) : ST σ (taktN t σ) (20 * t) := by
  obtain ⟨a, b, c, d, e⟩ := TX_taktN w.1 hb t ht
  exact ⟨⟨a, WD_cong w.2.1 (taktN_19 t) (b 3 (by decide) (by decide)), WY_taktN w.1 hb w.2.2 t ht⟩, d, e, by rw [taktN_7]; omega, by rw [taktN_7]; omega⟩
theorem ST_kind {σ : St} (w : WE σ) {k s a b f : Nat} (hs : s ≤ 4) (hf : f ≤ 1) : ST σ (kindS σ k s a b f) 0 :=
  ST_of w (WW_kind w.1 hs hf) (KF_up (KF_up (KF_up (KF_up KF_refl (by simp)) (by simp)) (by simp)) (by simp)) (WY_up (WY_up (WY_up (WY_up w.2.2 (by simp)) (by simp)) (by simp)) (by simp)) (by simp [kindS, up]) (by simp [kindS, up]) (by simp [kindS, up])
theorem ST_recall {σ : St} (w : WE σ) {l : Nat} (hl : l < σ 1 1 2) : ST σ (recallS σ l) 0 :=
  ST_of w (WW_recall w.1 hl) (KF_up KF_refl (by simp)) (WY_up w.2.2 (by simp)) (by simp [recallS, up]) (by simp [recallS, up]) (by simp [recallS, up])
theorem ST_fault {σ : St} (w : WE σ) {c : Nat} (hc : c < σ 1 2 2) : ST σ (faultS σ c) 0 :=
  ST_of w (WW_fault w.1 hc) (KF_up KF_refl (by simp)) (WY_up w.2.2 (by simp)) (by simp [faultS, up]) (by simp [faultS, up]) (by simp [faultS, up])
theorem ST_flash {σ : St} (w : WE σ) {c n : Nat} (hc : c < σ 1 2 2) (hn : n < σ 1 3 2) (h : σ 2 c 3 = 1) : ST σ (flashS σ c n) 0 :=
  ST_of w (WW_flash w.1 hc hn) (KF_up (KF_up (KF_up KF_refl (by simp)) (by simp)) (by simp)) (WY_flash w.2.2 h) (by simp [flashS, up]) (by simp [flashS, up]) (by simp [flashS, up])
theorem ST_sign {σ : St} (w : WE σ) {c n : Nat} (hn : n < σ 1 3 2) (hc : c < 30) : ST σ (signS σ n c) 0 :=
  ST_of w (WW_sign w.1 hn hc) (KF_up (KF_up KF_refl (by simp)) (by simp)) (WY_up (WY_up w.2.2 (by simp)) (by simp)) (by simp [signS, up]) (by simp [signS, up]) (by simp [signS, up])
theorem ST_lot {σ : St} (w : WE σ) {k v u : Nat} (hn : σ 1 1 2 < 40) (hk : k < 10) (hv : v < 100) (hu : u ≤ 50) : ST σ (lotS σ k v u) 0 :=
  ST_of w (WW_lot w.1 hn hk hv hu) (KF_add (KF_up (KF_up (KF_up (KF_up (KF_up (KF_up KF_refl (by simp)) (by simp)) (by simp)) (by simp)) (by simp)) (by simp))) (WY_lot w.2.2) (by rw [lS1, if_neg (by simp)]) (by rw [lS1, if_neg (by simp)]) (by rw [lS9, if_neg (by simp)])
theorem ST_order {σ : St} (w : WE σ) {o : Nat} (hn : σ 1 2 2 < 30) : ST σ (orderS σ o) 0 :=
  ST_of w (WW_order w.1 hn) (KF_add (KF_up (KF_up (KF_up (KF_up (KF_up (KF_up (KF_up (KF_up (KF_up (KF_up (KF_up (KF_up KF_refl (by simp)) (by simp)) (by simp)) (by simp)) (by simp)) (by simp)) (by simp)) (by simp)) (by simp)) (by simp)) (by simp)) (by simp))) (WY_order w.1 w.2.2) (by rw [oS1, if_neg (by simp)]) (by rw [oS1, if_neg (by simp)]) (by rw [oS9, if_neg (by simp)])
theorem ST_img {σ : St} (w : WE σ) {c : Nat} (hn : σ 1 3 2 < 40) (h : ∀ n, n < σ 1 3 2 → built σ n c = false) : ST σ (imgS σ c) 0 := by
  have e7 : imgS σ c 7 0 7 = σ 7 0 7 := iSx _ _ _ _ _ (by decide)
  exact ⟨⟨WW_img w.1 hn, WD_img w.2.1 h, WY_img w.2.2⟩, by rw [iS1, if_neg (by decide)]; omega, by rw [iS9, if_neg (by decide)]; exact Nat.le_refl _, by rw [e7]; exact Nat.le_refl _, by rw [e7]; omega⟩
