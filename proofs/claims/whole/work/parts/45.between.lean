/-! what stays from call to call -/
def KF (σ τ : St) : Prop := (∀ b k, τ 19 b k = σ 19 b k) ∧ τ 22 0 0 = σ 22 0 0 ∧ τ 11 22 0 = σ 11 22 0 ∧ τ 98 0 0 = σ 98 0 0
theorem KF_refl {σ : St} : KF σ σ := ⟨fun _ _ => rfl, rfl, rfl, rfl⟩
theorem KF_trans {σ τ υ : St} (a : KF σ τ) (b : KF τ υ) : KF σ υ := ⟨fun x y => (b.1 x y).trans (a.1 x y), b.2.1.trans a.2.1, b.2.2.1.trans a.2.2.1, b.2.2.2.trans a.2.2.2⟩
theorem KF_up {σ τ : St} {t i j v : Nat} (a : KF σ τ) (h : t ≠ 19 ∧ t ≠ 22 ∧ t ≠ 98 ∧ (t = 11 → i ≠ 22)) : KF σ (up τ t i j v) :=
  KF_trans a ⟨fun _ _ => up_ne (fun z => h.1 z.1.symm), up_ne (fun z => h.2.1 z.1.symm), up_ne (fun z => h.2.2.2 z.1.symm z.2.1.symm), up_ne (fun z => h.2.2.1 z.1.symm)⟩
theorem KF_add {σ τ : St} {i : Nat} (a : KF σ τ) : KF σ (addS τ i) := KF_up (KF_up (KF_up a (by simp)) (by simp)) (by simp)
theorem KF_clr {σ τ : St} {s : Nat} (a : KF σ τ) : KF σ (clr τ s) := KF_up a (by simp)
theorem KF_line {σ τ : St} {c s : Nat} (a : KF σ τ) : KF σ (toLine τ c s) := KF_up (KF_up (KF_up (KF_up a (by simp)) (by simp)) (by simp)) (by simp)
theorem KF_lane {σ τ : St} {c s : Nat} (a : KF σ τ) : KF σ (toLane τ c s) := KF_up (KF_add (KF_up (KF_up (KF_up (KF_up (KF_up a (by simp)) (by simp)) (by simp)) (by simp)) (by simp))) (by simp)
theorem KF_pick {σ τ : St} {c k l : Nat} (a : KF σ τ) : KF σ (newPick τ c k l) := KF_add (KF_up (KF_up (KF_up (KF_up a (by simp)) (by simp)) (by simp)) (by simp))
theorem KF_back {σ τ : St} {s : Nat} (a : KF σ τ) : KF σ (backS τ s) := by
  unfold backS
  repeat' split
  · exact a
  · exact KF_lane (KF_clr a)
  · exact KF_up (KF_lane (KF_clr a)) (by simp)
  · exact a
theorem KF_backN {n : Nat} : ∀ {σ τ : St}, KF σ τ → KF σ (backN n τ) := by
  induction n with
  | zero => exact fun a => a
  | succ n ih => exact fun a => ih (KF_back a)
theorem KF_leave {σ τ : St} (a : KF σ τ) : KF σ (leaveS τ) := by
  unfold leaveS
  split
  · exact KF_up (KF_up (KF_clr a) (by simp)) (by simp)
  · exact a
theorem KF_move {σ τ : St} {s : Nat} (a : KF σ τ) : KF σ (moveS τ s) := by
  unfold moveS
  split
  · exact KF_line (KF_clr a)
  · exact a
theorem KF_moveN {n : Nat} : ∀ {σ τ : St}, KF σ τ → KF σ (moveN n τ) := by
  induction n with
  | zero => exact fun a => a
  | succ n ih => exact fun a => ih (KF_move a)
theorem KF_rem {σ τ : St} {n : Nat} (a : KF σ τ) : KF σ (remS τ n) :=
  KF_trans a ⟨fun _ _ => rmy _ _ _ _ _ (by decide) (by decide), rmy _ _ _ _ _ (by decide) (by decide), rmy _ _ _ _ _ (by decide) (by decide), rmy _ _ _ _ _ (by decide) (by decide)⟩
theorem KF_laneN {σ : St} : ∀ d {τ : St} {n m : Nat}, KF σ τ → KF σ (laneN d n m τ) := by
  intro d
  induction d with
  | zero => exact fun a => KF_up a (by simp)
  | succ d ih =>
    intro τ n m a
    unfold laneN
    split
    · exact ih (KF_line (KF_rem a))
    · exact ih (KF_up a (by simp))
theorem KF_orders {σ τ : St} (a : KF σ τ) : KF σ (ordersS τ) := by
  unfold ordersS
  split
  · exact KF_line (KF_up a (by simp))
  · exact a
theorem KF_take {σ τ : St} {c k : Nat} (a : KF σ τ) : KF σ (takeS τ c k) := by
  unfold takeS
  split
  · exact a
  · exact KF_pick (KF_up (KF_up (KF_up a (by simp)) (by simp)) (by simp))
theorem KF_pickN {σ τ : St} {c k : Nat} (a : KF σ τ) : ∀ d l, KF σ (pickN τ c k l d) := by
  intro d
  induction d with
  | zero => exact fun _ => a
  | succ d ih =>
    intro l
    unfold pickN
    split
    · exact KF_pick (KF_up (KF_up (KF_up a (by simp)) (by simp)) (by simp))
    · exact ih (l + 1)
theorem KF_fit1 {σ τ : St} {c k : Nat} (a : KF σ τ) : KF σ (fit1 τ c k) := KF_pickN (KF_take a) _ _
theorem KF_fitK {σ τ : St} {c s : Nat} (a : KF σ τ) : ∀ k, KF σ (fitK τ c s k) := by
  intro k
  induction k with
  | zero => exact a
  | succ k ih =>
    unfold fitK
    split
    · exact KF_fit1 ih
    · exact ih
theorem KF_test {σ τ : St} {c : Nat} (a : KF σ τ) : KF σ (testS τ c) := by
  unfold testS
  split
  · exact KF_up (KF_up (KF_up a (by simp)) (by simp)) (by simp)
  · exact KF_up (KF_up (KF_up (KF_up a (by simp)) (by simp)) (by simp)) (by simp)
theorem KF_work {σ τ : St} {s : Nat} (a : KF σ τ) : KF σ (workS τ s) := by
  unfold workS
  repeat' split
  · exact a
  · exact KF_fitK a _
  · exact KF_test a
  · exact a
theorem KF_workN {σ τ : St} (a : KF σ τ) : ∀ s, KF σ (workN τ s) := by
  intro s
  induction s with
  | zero => exact a
  | succ s ih => exact KF_work ih
theorem KF_takt {σ τ : St} (a : KF σ τ) : KF σ (taktS τ) := KF_up (KF_workN (KF_orders (KF_laneN _ (KF_moveN (KF_leave (KF_backN a))))) 8) (by simp)
theorem KF_taktN {σ : St} : ∀ n, KF σ (taktN n σ) := by
  intro n
  induction n with
  | zero => exact KF_refl
  | succ n ih => exact KF_takt ih
/-- what holds between calls -/
def WE (σ : St) : Prop := WW σ ∧ WD σ ∧ V σ 22 0
/-- what a call leaves: at most n picks more -/
def ST (σ S : St) (n : Nat) : Prop := WE S ∧ S 1 5 2 ≤ σ 1 5 2 + n ∧ σ 9 5 0 ≤ S 9 5 0
theorem V22 {σ τ : St} (v : V σ 22 0) (e : τ 11 22 0 = σ 11 22 0) : V τ 22 0 := by unfold V at *; rw [e]; exact v
theorem ST_refl {σ : St} (w : WE σ) : ST σ σ 0 := ⟨w, Nat.le_refl _, Nat.le_refl _⟩
theorem ST_of {σ S : St} (w : WE σ) (ww : WW S) (k : KF σ S) (e3 : S 1 3 2 = σ 1 3 2) {n : Nat} (h1 : S 1 5 2 ≤ σ 1 5 2 + n) (h2 : σ 9 5 0 ≤ S 9 5 0) : ST σ S n := ⟨⟨ww, WD_cong w.2.1 k.1 e3, V22 w.2.2 k.2.2.1⟩, h1, h2⟩
theorem ST_takt {σ : St} (w : WE σ) (hb : σ 1 5 2 < 18000000) {t : Nat} (ht : t ≤ 20) : ST σ (taktN t σ) (20 * t) := by
  obtain ⟨a, b, c, d, e⟩ := TX_taktN w.1 hb t ht
  exact ST_of w a (KF_taktN t) (b 3 (by decide) (by decide)) d e
theorem WE98 {σ : St} (w : WE σ) {k : Nat} : WE (up σ 98 0 0 k) := ⟨WW98 w.1, WD_cong w.2.1 (fun _ _ => u98 (by decide)) (u98 (by decide)), V22 w.2.2 (u98 (by decide))⟩
theorem ST_kind {σ : St} (w : WE σ) {k s a b f : Nat} (hs : s ≤ 4) (hf : f ≤ 1) : ST σ (kindS σ k s a b f) 0 :=
  ST_of w (WW_kind w.1 hs hf) (KF_up (KF_up (KF_up (KF_up KF_refl (by simp)) (by simp)) (by simp)) (by simp)) (by simp [kindS, up]) (by simp [kindS, up]) (by simp [kindS, up])
theorem ST_recall {σ : St} (w : WE σ) {l : Nat} (hl : l < σ 1 1 2) : ST σ (recallS σ l) 0 :=
  ST_of w (WW_recall w.1 hl) (KF_up KF_refl (by simp)) (by simp [recallS, up]) (by simp [recallS, up]) (by simp [recallS, up])
theorem ST_fault {σ : St} (w : WE σ) {c : Nat} (hc : c < σ 1 2 2) : ST σ (faultS σ c) 0 :=
  ST_of w (WW_fault w.1 hc) (KF_up KF_refl (by simp)) (by simp [faultS, up]) (by simp [faultS, up]) (by simp [faultS, up])
theorem ST_flash {σ : St} (w : WE σ) {c n : Nat} (hc : c < σ 1 2 2) (hn : n < σ 1 3 2) : ST σ (flashS σ c n) 0 :=
  ST_of w (WW_flash w.1 hc hn) (KF_up (KF_up (KF_up KF_refl (by simp)) (by simp)) (by simp)) (by simp [flashS, up]) (by simp [flashS, up]) (by simp [flashS, up])
theorem ST_sign {σ : St} (w : WE σ) {c n : Nat} (hn : n < σ 1 3 2) (hc : c < 30) : ST σ (signS σ n c) 0 :=
  ST_of w (WW_sign w.1 hn hc) (KF_up (KF_up KF_refl (by simp)) (by simp)) (by simp [signS, up]) (by simp [signS, up]) (by simp [signS, up])
theorem ST_lot {σ : St} (w : WE σ) {k v u : Nat} (hn : σ 1 1 2 < 40) (hk : k < 10) (hv : v < 100) (hu : u ≤ 50) : ST σ (lotS σ k v u) 0 :=
  ST_of w (WW_lot w.1 hn hk hv hu) (KF_add (KF_up (KF_up (KF_up (KF_up (KF_up (KF_up KF_refl (by simp)) (by simp)) (by simp)) (by simp)) (by simp)) (by simp))) (by rw [lS1, if_neg (by simp)]) (by rw [lS1, if_neg (by simp)]; omega) (by rw [lS9, if_neg (by simp)]; exact Nat.le_refl _)
theorem ST_order {σ : St} (w : WE σ) {o : Nat} (hn : σ 1 2 2 < 30) : ST σ (orderS σ o) 0 :=
  ST_of w (WW_order w.1 hn) (KF_add (KF_up (KF_up (KF_up (KF_up (KF_up (KF_up (KF_up (KF_up (KF_up (KF_up (KF_up (KF_up KF_refl (by simp)) (by simp)) (by simp)) (by simp)) (by simp)) (by simp)) (by simp)) (by simp)) (by simp)) (by simp)) (by simp)) (by simp))) (by rw [oS1, if_neg (by simp)]) (by rw [oS1, if_neg (by simp)]; omega) (by rw [oS9, if_neg (by simp)]; exact Nat.le_refl _)
theorem ST_img {σ : St} (w : WE σ) {c : Nat} (hn : σ 1 3 2 < 40) (h : ∀ n, n < σ 1 3 2 → built σ n c = false) : ST σ (imgS σ c) 0 := by
  refine ⟨⟨WW_img w.1 hn, WD_img w.2.1 h, V22 w.2.2 ?_⟩, ?_, ?_⟩
  · unfold imgS
    rw [as11, if_neg (by simp), iVx _ _ _ _ _ _ _ _ (by decide), iA11, if_neg (by simp)]
  · rw [iS1, if_neg (by decide)]; omega
  · rw [iS9, if_neg (by decide)]; exact Nat.le_refl _
/-- the law's state -/
def GS (dE x m9 o : Nat) (h : Hp) (P C : Nat) : Prop := ∃ ad σ, RR dE ad σ σ h ∧ WE σ ∧ ad 7 0 = x ∧ ad 8 0 = m9 ∧ ad 22 0 = o ∧ σ 1 5 2 ≤ P ∧ σ 9 5 0 = C
theorem xJ (x : Int64) : Int64.ofNat x.toBitVec.toNat = x := by
  apply Int64.toBitVec_inj.mp
  show BitVec.ofNat 64 x.toBitVec.toNat = x.toBitVec
  simp
def jn (y : Int64) : Nat := y.toBitVec.toNat
def bJ (b : Bool) : Int64 := if b = true then 1 else 0
theorem WW22 {σ : St} (w : WW σ) {k : Nat} : WW (up σ 22 0 0 k) := WW_up w (by simp [okU]) (by decide)
section TL
variable {dE : Nat} {ad : Nat → Nat → Nat} {ρ μ : St} {h : Hp}
theorem RR.done {S : St} {v k : Nat} (r : RR dE ad (up S 22 0 0 v) (up S 98 0 0 k) h) : RR dE ad (up (up S 22 0 0 v) 98 0 0 k) (up (up S 22 0 0 v) 98 0 0 k) h := by
  refine (r.thr (v := k)).eqM (fun a b d t => ?_)
  simp only [up]
  unfold toldM at t
  repeat' split
  all_goals omega
theorem close {σ S : St} {v k n P x m9 o : Nat} (r : RR dE ad (up S 22 0 0 v) (up S 98 0 0 k) h) (st : ST σ S n) (hP : σ 1 5 2 ≤ P) (hn : n ≤ 400) (e7 : ad 7 0 = x) (e8 : ad 8 0 = m9) (e22 : ad 22 0 = o) : GS dE x m9 o h (P + 400) (S 9 5 0) := by
  obtain ⟨⟨w1, w2, w3⟩, b1, b2⟩ := st
  refine ⟨ad, up (up S 22 0 0 v) 98 0 0 k, r.done, WE98 ⟨WW22 w1, WD_cong w2 (fun _ _ => up_ne (fun z => by cases z.1)) (up_ne (fun z => by cases z.1)), V22 w3 (up_ne (fun z => by cases z.1))⟩, e7, e8, e22, ?_, ?_⟩
  · rw [u98 (by decide), up_ne (fun z => by cases z.1)]; omega
  · rw [u98 (by decide), up_ne (fun z => by cases z.1)]
theorem closeS {σ S : St} {k n P x m9 o : Nat} (r : RR dE ad S (up S 98 0 0 k) h) (st : ST σ S n) (hP : σ 1 5 2 ≤ P) (hn : n ≤ 400) (e7 : ad 7 0 = x) (e8 : ad 8 0 = m9) (e22 : ad 22 0 = o) : GS dE x m9 o h (P + 400) (S 9 5 0) := by
  have r' : RR dE ad (up S 22 0 0 (S 22 0 0)) (up S 98 0 0 k) h := by rw [up_same]; exact r
  exact close r' st hP hn e7 e8 e22
theorem close0 {σ : St} {k P x m9 o : Nat} (r : RR dE ad σ (up σ 98 0 0 k) h) (w : WE σ) (hP : σ 1 5 2 ≤ P) (e7 : ad 7 0 = x) (e8 : ad 8 0 = m9) (e22 : ad 22 0 = o) : GS dE x m9 o h (P + 400) (σ 9 5 0) := by
  have r' : RR dE ad (up σ 22 0 0 (σ 22 0 0)) (up σ 98 0 0 k) h := by rw [up_same]; exact r
  exact close r' (ST_refl w) hP (Nat.zero_le _) e7 e8 e22
/-- the answer is kept -/
theorem wr1 (r : RR dE ad ρ μ h) (v : V ρ 22 0) {y : Int32} {post : Hp → Prop} (hp : ∀ h', RR dE ad (up ρ 22 0 0 (jn y.toInt64)) μ h' → post h') : (hT h (ad 22 0) = 22 ∧ (0 < hL h (ad 22 0) ∧ (∀ h5, h5 = sJ h (ad 22 0) 0 y.toInt64 → post h5))) := by
  have l : hL h (ad 22 0) = 1 := r.len v
  refine ⟨r.tag v, by omega, fun h5 e5 => hp h5 ?_⟩
  rw [e5]
  exact r.setJ (xJ _)
theorem wrB (r : RR dE ad ρ μ h) (v : V ρ 22 0) {b : Bool} {post : Hp → Prop} (hp : ∀ h', RR dE ad (up ρ 22 0 0 (jn (bJ b))) μ h' → post h') : (∀ J15 : Int64 → Prop, (∀ (t15_0 : Int64), (hT h (ad 22 0) = 22 ∧ (0 < hL h (ad 22 0) ∧ (∀ h5, h5 = sJ h (ad 22 0) 0 t15_0 → post h5))) → J15 t15_0) → ((nI b.toNat = 0 → J15 (0 : Int64)) ∧ (¬ (nI b.toNat = 0) → J15 (1 : Int64)))) := by
  have l : hL h (ad 22 0) = 1 := r.len v
  intro J hJ
  have main : J (bJ b) := hJ _ ⟨r.tag v, by omega, fun h5 e5 => hp h5 (by rw [e5]; exact r.setJ (xJ _))⟩
  cases b with
  | false => exact ⟨fun _ => main, fun q => absurd rfl q⟩
  | true => exact ⟨fun q => absurd q n10, fun _ => main⟩
/-- both threw alike -/
theorem tail0 (r : RR dE ad ρ μ h) (w : WA ρ) {k : Nat} (hk : μ 98 0 0 = k) (k0 : k ≠ 0) (k9 : k < 100) {A : Prop} {B : Prop → Prop} (hA : A) : (hT h (ad 8 0) = 8 ∧ wp_X6_thrown h (ad 8 0) (fun x7 => ((x7 = nI k → (∀ J : Prop, (A → J) → ((nI k = 0 → B J) ∧ (¬ (nI k = 0) → J)))) ∧ (¬ (x7 = nI k) → False)))) :=
  ⟨t_8 r w, q_thrown r w ⟨fun _ J hJ => ⟨fun q => absurd ((nI_eq (b := 0) (by omega) (by omega)).mp q) k0, fun _ => hJ hA⟩, fun q => q (by rw [hk])⟩⟩
theorem tailK (r : RR dE ad ρ μ h) (w : WA ρ) {k : Nat} (hk : μ 98 0 0 = k) {A : Prop} (hA : A) : (hT h (ad 8 0) = 8 ∧ wp_X6_thrown h (ad 8 0) (fun x15 => ((x15 = nI k → A) ∧ (¬ (x15 = nI k) → False)))) :=
  ⟨t_8 r w, q_thrown r w ⟨fun _ => hA, fun q => q (by rw [hk])⟩⟩
/-- both answered alike -/
theorem tail1 (r : RR dE ad ρ μ h) (w : WA ρ) (v : V ρ 22 0) {y : Int32} (hk : μ 98 0 0 = 0) (hv : ρ 22 0 0 = jn y.toInt64) {A : Prop} (hA : A) : (hT h (ad 8 0) = 8 ∧ wp_X6_thrown h (ad 8 0) (fun x7 => ((x7 = 0 → (∀ J : Prop, (A → J) → (((0 : Int32) = 0 → (hT h (ad 22 0) = 22 ∧ (0 < hL h (ad 22 0) ∧ (∃ x13 : Int64, hJ h (ad 22 0) 0 = x13 ∧ (((lg_cmp x13 y.toInt64) = 0 → J) ∧ (¬ ((lg_cmp x13 y.toInt64) = 0) → False)))))) ∧ (¬ ((0 : Int32) = 0) → J)))) ∧ (¬ (x7 = 0) → False)))) := by
  have l : hL h (ad 22 0) = 1 := r.len v
  refine ⟨t_8 r w, q_thrown r w ⟨fun _ J hJ => ⟨fun _ => ⟨r.tag v, by omega, _, r.lng v, fun _ => hJ hA, fun q => q ?_⟩, fun q => absurd rfl q⟩, fun q => q (by rw [hk]; rfl)⟩⟩
  rw [hv]
  unfold jn
  rw [xJ, lg_cmp_eq]
theorem tailB (r : RR dE ad ρ μ h) (w : WA ρ) (v : V ρ 22 0) {b : Bool} (hk : μ 98 0 0 = 0) (hv : ρ 22 0 0 = jn (bJ b)) {A : Prop} (hA : A) : (hT h (ad 8 0) = 8 ∧ wp_X6_thrown h (ad 8 0) (fun x7 => ((x7 = 0 → (∀ J : Prop, (A → J) → (((0 : Int32) = 0 → (hT h (ad 22 0) = 22 ∧ (0 < hL h (ad 22 0) ∧ (∃ x13 : Int64, hJ h (ad 22 0) 0 = x13 ∧ (∀ J618 : Int64 → Prop, (∀ (t618_0 : Int64), (((lg_cmp x13 t618_0) = 0 → J) ∧ (¬ ((lg_cmp x13 t618_0) = 0) → False)) → J618 t618_0) → ((nI b.toNat = 0 → J618 (0 : Int64)) ∧ (¬ (nI b.toNat = 0) → J618 (1 : Int64)))))))) ∧ (¬ ((0 : Int32) = 0) → J)))) ∧ (¬ (x7 = 0) → False)))) := by
  have l : hL h (ad 22 0) = 1 := r.len v
  refine ⟨t_8 r w, q_thrown r w ⟨fun _ J hJ => ⟨fun _ => ⟨r.tag v, by omega, _, r.lng v, fun K hK => ?_⟩, fun q => absurd rfl q⟩, fun q => q (by rw [hk]; rfl)⟩⟩
  have main : K (bJ b) := hK _ ⟨fun _ => hJ hA, fun q => q (by rw [hv]; unfold jn; rw [xJ, lg_cmp_eq])⟩
  cases b with
  | false => exact ⟨fun _ => main, fun q => absurd rfl q⟩
  | true => exact ⟨fun q => absurd q n10, fun _ => main⟩
end TL
