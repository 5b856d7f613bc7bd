/-! the line makes lots, cars and images -/
def findN (σ : St) (c : Nat) : Nat → Nat → Nat
  | i, 0 => i
  | i, d + 1 => if built σ i c = true then i else findN σ c (i + 1) d
def bld (σ : St) (c : Nat) : Nat := findN σ c 0 (σ 1 3 2)
theorem cr_12 {ρ : St} {t z v a b k : Nat} (n : a = t → (t = 7 ∨ t = 8 ∨ t = 23 → k ≠ z) ∧ (t = 1 ∨ t = 3 → b ≠ z ∨ k ≠ 1) ∧ (t = 2 → b ≠ z ∨ k ≠ 2)) : cr (up ρ 12 t z v) a b k = cr ρ a b k := by
  have e1 : ∀ k, up ρ 12 t z v 1 k 2 = ρ 1 k 2 := fun k => up_ne (fun z => by cases z.1)
  have e9 : ∀ k, up ρ 12 t z v 9 k 0 = ρ 9 k 0 := fun k => up_ne (fun z => by cases z.1)
  have e25 : ∀ a k, up ρ 12 t z v 25 a k = ρ 25 a k := fun a k => up_ne (fun z => by cases z.1)
  have e24 : ∀ k q, up ρ 12 t z v 24 k q = ρ 24 k q := fun k q => up_ne (fun z => by cases z.1)
  have e2 : ∀ k, up ρ 12 t z v 2 k 5 = ρ 2 k 5 := fun k => up_ne (fun z => by cases z.1)
  have e26 : ∀ q, up ρ 12 t z v 26 4 q = ρ 26 4 q := fun q => up_ne (fun z => by cases z.1)
  have e12 : ∀ x y, ¬ (x = t ∧ y = z) → up ρ 12 t z v 12 x y = ρ 12 x y := fun x y h => up_ne (fun q => h q.2)
  unfold cr elm
  split
  · rw [e12 7 k (fun q => (n q.1).1 (Or.inl q.1.symm) q.2)]
  · rw [e12 8 k (fun q => (n q.1).1 (Or.inr (Or.inl q.1.symm)) q.2)]
  · rw [e12 23 k (fun q => (n q.1).1 (Or.inr (Or.inr q.1.symm)) q.2)]
  · by_cases k1 : k = 1
    · rw [e12 1 b (fun q => ((n q.1).2.1 (Or.inl q.1.symm)).elim (fun y => y q.2) (fun y => y k1)), e9]
    · rw [if_pos (Or.inr k1), if_pos (Or.inr k1)]
  · rw [e25]
  · rw [e24]
  · by_cases k2 : k = 2
    · rw [if_pos k2, if_pos k2, e12 2 b (fun q => ((n q.1).2.2 q.1.symm).elim (fun y => y q.2) (fun y => y k2))]
    · rw [if_neg k2, if_neg k2, e2]
  · by_cases k1 : k = 1
    · rw [e12 3 b (fun q => ((n q.1).2.1 (Or.inr q.1.symm)).elim (fun y => y q.2) (fun y => y k1))]
    · rw [if_pos (Or.inr k1), if_pos (Or.inr k1)]
  · simp only [e1, e26]
  · rfl
section LN
variable {dE : Nat} {ad : Nat → Nat → Nat} {ρ : St} {μ : Mu} {h : Hp}
theorem RR.link {t i j z : Nat} {p : Nat × Nat} (r : RR dE ad ρ μ h) (w : V ρ t i) (vp : V ρ p.1 p.2) (h1 : ∀ y, cr (up ρ 12 t z 1) t i j = some y → y = some p) (h2 : ∀ a b k, V ρ a b → ¬ (a = t ∧ b = i ∧ k = j) → cr (up ρ 12 t z 1) a b k = cr ρ a b k) : RR dE ad (up ρ 12 t z 1) μ (sR h (ad t i) j (some (ad p.1 p.2))) :=
  r.setR (x := some p) w (fun q hq => by injection hq with hq; subst hq; exact vp) (V_up (by decide)) (fun a b => lnL_up (by decide) a b) (fun a b k wi => up_ne (fun q => by rw [q.1] at wi; cases wi)) (fun a b k y va wa => by
    by_cases e : a = t ∧ b = i ∧ k = j
    · obtain ⟨rfl, rfl, rfl⟩ := e
      exact Or.inl ⟨rfl, rfl, rfl, h1 y wa⟩
    · rw [h2 a b k va e] at wa
      exact Or.inr ⟨e, wa⟩) (up_ne (fun q => by cases q.1))
theorem RR.unlink {t z : Nat} (r : RR dE ad ρ μ h) (nv : ¬ V ρ t z) (ht : t = 1 ∨ t = 2 ∨ t = 3) : RR dE ad (up ρ 12 t z 0) μ h := by
  refine r.congL (V_up (by decide)) (fun a b _ => lnL_up (by decide) a b) (fun a b k va wa => by rw [up_ne (fun q => by rw [q.1] at wa; cases wa)]; exact r.int va wa) (fun a b k x va wa => r.2.2.2.1 a b k x va ?_) (up_ne (fun q => by cases q.1))
  rw [cr_12 (fun e => ?_)] at wa
  · exact wa
  · have bz : b ≠ z := fun q => nv (by rw [← e, ← q]; exact va)
    exact ⟨fun q => by omega, fun _ => Or.inl bz, fun _ => Or.inl bz⟩
/-! lots -/
theorem c_lot1 {x y z : Int32} (hx : NL x 10) {post : Int32 → Hp → Prop} {px : String → Hp → Prop} (hp : px XB h) : wp_X5_lot dE h (ad 7 0) x y z post px := by
  unfold wp_X5_lot
  exact p_kindNo hx hp
theorem NR_lt {x : Int32} {a b : Nat} (hx : NR x a b) : ¬ x < nI a → nI b < x := fun q => hx.elim (fun z => absurd z q) id
theorem c_lot2 {k : Nat} {y z : Int32} (hk : k < 10) (hx : NR y 1 99 ∨ NR z 1 50) {post : Int32 → Hp → Prop} {px : String → Hp → Prop} (hp : px XA h) : wp_X5_lot dE h (ad 7 0) (nI k) y z post px := by
  unfold wp_X5_lot
  refine p_kindOk hk (fun J hJ => ⟨fun _ => hJ hp, fun q1 => ⟨fun _ => hJ hp, fun q2 => ?_⟩⟩)
  have hz : NR z 1 50 := hx.elim (fun y => absurd (NR_lt y q1) q2) id
  exact ⟨fun _ => hJ hp, fun q3 => ⟨fun q4 => absurd q4 (ix_nle (NR_lt hz q3)), fun _ => hJ hp⟩⟩
theorem c_lot3 (r : RR dE ad ρ μ h) (w : WA ρ) (v : WV ρ) {k x u : Nat} (hk : k < 10) (x1 : 1 ≤ x) (x99 : x ≤ 99) (u1 : 1 ≤ u) (u50 : u ≤ 50) (hn : ¬ ρ 1 1 2 < 40) {post : Int32 → Hp → Prop} {px : String → Hp → Prop} (hp : px XS h) : wp_X5_lot dE h (ad 7 0) (nI k) (nI x) (nI u) post px := by
  have b := v.2.2.2.2.1.1
  unfold wp_X5_lot
  refine p_kindOk hk (fun J hJ => ⟨fun q => absurd q (nI_nlt (b := 1) x1 (by omega)), fun _ => ⟨fun q => absurd q (nI_nlt (a := 99) x99 (by omega)), fun _ => ⟨fun q => absurd q (nI_nlt (b := 1) u1 (by omega)), fun _ => ⟨fun _ => ?_, fun q => absurd (nI_le (b := 50) u50 (by omega)) q⟩⟩⟩⟩)
  exact ⟨t_7 r w, _, r_7_1 r w, t_1 r w (by decide) (by decide), t_1 r w (by decide) (by decide), _, i_1_2 r w (by decide) (by decide), fun q => absurd q (nI_nlt (b := 40) (by omega) (by omega)), fun _ => hp⟩
theorem c_lot4 (r : RR dE ad ρ μ h) (ww : WI ρ) {k x u : Nat} (hk : k < 10) (x1 : 1 ≤ x) (x99 : x ≤ 99) (u1 : 1 ≤ u) (u50 : u ≤ 50) (hn : ρ 1 1 2 < 40) {post : Int32 → Hp → Prop} {px : String → Hp → Prop} (hp : ∀ ad' h', AH ad ad' → RR dE ad' (lotS ρ k x u) μ h' → post (nI (ρ 1 1 2)) h') : wp_X5_lot dE h (ad 7 0) (nI k) (nI x) (nI u) post px := by
  have w := ww.1
  have cO := ww.2.2.2.1.1 1 (by decide) (by decide)
  obtain ⟨k49, -, -⟩ := capA_le cO hn
  have ww0 := ww
  unfold lotS at hp
  have eN : ρ 1 1 2 = ρ 1 1 2 := rfl
  unfold wp_X5_lot
  refine p_kindOk hk (fun J hJ => ⟨fun q => absurd q (nI_nlt (b := 1) x1 (by omega)), fun _ => ⟨fun q => absurd q (nI_nlt (a := 99) x99 (by omega)), fun _ => ⟨fun q => absurd q (nI_nlt (b := 1) u1 (by omega)), fun _ => ⟨fun _ => ?_, fun q => absurd (nI_le (b := 50) u50 (by omega)) q⟩⟩⟩⟩)
  refine ⟨t_7 r w, _, r_7_1 r w, t_1 r w (by decide) (by decide), t_1 r w (by decide) (by decide), _, i_1_2 r w (by decide) (by decide), fun _ => ⟨_, r_7_1 r w, fun q zq h13 e13 => ?_⟩, fun q => absurd (nI_lt (b := 40) hn (by omega)) q⟩
  have nv : ¬ V ρ 5 (ρ 1 1 2) := fun y => by have := (w.2.2.2.2.1 _).mp y; omega
  have r0 := r.new (t := 5) (i := ρ 1 1 2) (n := 0) zq nv (by decide) rfl (fun j _ => ww.2.2.2.2.1 _ j (Nat.le_refl _)) (fun j y hy => by cases hy) (fun e => by cases e) (fun e => by cases e) (fun e => by cases e)
  have e0 : au ad 5 (ρ 1 1 2) q 5 (ρ 1 1 2) = q := au_eq
  have e13 : h13 = sN h q (tgL 5) 0 := e13
  rw [← e13] at r0
  have v0 : V (up ρ 11 5 (ρ 1 1 2) 1) 5 (ρ 1 1 2) := by unfold V; rw [up_eq]; decide
  unfold wp_X3_init
  refine ⟨by rw [e13, hT_sN, if_pos rfl]; rfl, fun h1 e1 h2 e2 h3 e3 h4 e4 h5 e5 => ?_⟩
  have r1 := r0.setI (v := 0) v0 (j := 4) rfl (by decide)
  have e1 : h1 = sI h13 q 4 (nI 0) := e1
  rw [e0, ← e1] at r1
  have v1 := (V_up (ρ := up ρ 11 5 (ρ 1 1 2) 1) (t := 5) (i := ρ 1 1 2) (j := 4) (v := 0) (by decide) _ _).mpr v0
  have r2 := r1.setI (v := ρ 1 1 2) v1 (j := 0) rfl (by decide)
  rw [e0, ← e2] at r2
  have v2 := (V_up (t := 5) (i := ρ 1 1 2) (j := 0) (v := ρ 1 1 2) (by decide) _ _).mpr v1
  have r3 := r2.setI (v := k) v2 (j := 1) rfl (by decide)
  rw [e0, ← e3] at r3
  have v3 := (V_up (t := 5) (i := ρ 1 1 2) (j := 1) (v := k) (by decide) _ _).mpr v2
  have r4 := r3.setI (v := x) v3 (j := 2) rfl (by decide)
  rw [e0, ← e4] at r4
  have v4 := (V_up (t := 5) (i := ρ 1 1 2) (j := 2) (v := x) (by decide) _ _).mpr v3
  have r5 := r4.setI (v := u) v4 (j := 3) rfl (by decide)
  rw [e0, ← e5] at r5
  have v5 := (V_up (t := 5) (i := ρ 1 1 2) (j := 3) (v := u) (by decide) _ _).mpr v4
  have r5 : RR dE (au ad 5 (ρ 1 1 2) q) (lotI ρ (ρ 1 1 2) k x u) μ h5 := r5
  have v5 : V (lotI ρ (ρ 1 1 2) k x u) 5 (ρ 1 1 2) := v5
  have xV : ∀ t i, t ≠ 5 → (V (lotI ρ (ρ 1 1 2) k x u) t i ↔ V ρ t i) := fun t i h => by unfold V; rw [lI11, if_neg (fun z => h z.1)]
  have x12 : ∀ t i, lotI ρ (ρ 1 1 2) k x u 12 t i = ρ 12 t i := fun t i => lIx _ _ _ _ _ _ _ _ (by decide)
  have x1 : ∀ i, lotI ρ (ρ 1 1 2) k x u 1 i 2 = ρ 1 i 2 := fun i => lIx _ _ _ _ _ _ _ _ (by decide)
  have x9 : ∀ i, lotI ρ (ρ 1 1 2) k x u 9 i 0 = ρ 9 i 0 := fun i => lIx _ _ _ _ _ _ _ _ (by decide)
  have wl : WLi (lotI ρ (ρ 1 1 2) k x u) 1 := by
    have := WA_li w (i := 1) (by decide) (by decide) (by unfold capO at cO; omega) (by unfold capO at cO; omega)
    unfold WLi at this ⊢
    simp only [xV _ _ (show 1 ≠ 5 by decide), xV _ _ (show 26 ≠ 5 by decide), x12, x1, x9]
    exact this
  have e11 : au ad 5 (ρ 1 1 2) q 1 1 = ad 1 1 := au_ne (fun z => by cases z.1)
  refine ⟨by rw [← e11]; exact r5.tag ((xV _ _ (by decide)).mpr (w.2.2.1 1 (by decide) (by decide)).1), ?_⟩
  have main := p_add (mc := 1) (ms := 49) (i := 1) (p := (5, ρ 1 1 2)) r5 wl (by rw [x1]; rfl) v5 (fun _ => ⟨Nat.le_refl _, by rw [x1, x9]; exact k49⟩) (post := fun _ h' => post (nI (ρ 1 1 2)) h') (fun ad' h' had r' => hp ad' h' ⟨(had 7 0 (by decide)).trans (au_ne (fun z => by cases z.1)), (had 8 0 (by decide)).trans (au_ne (fun z => by cases z.1)), (had 22 0 (by decide)).trans (au_ne (fun z => by cases z.1))⟩ r')
  have e6 : au ad 5 (ρ 1 1 2) q (5, ρ 1 1 2).1 (5, ρ 1 1 2).2 = q := e0
  rw [e11, e6] at main
  exact main
/-! orders -/
theorem c_order1 {x : Int32} (hx : NR x 0 255) {post : Int32 → Hp → Prop} {px : String → Hp → Prop} (hp : px XA h) : wp_X5_order dE h (ad 7 0) x post px := by
  unfold wp_X5_order
  exact p_optNo hx ⟨fun _ => hp, fun q => absurd rfl q⟩
theorem c_order2 (r : RR dE ad ρ μ h) (w : WA ρ) (v : WV ρ) {o : Nat} (ho : o ≤ 255) (hn : ¬ ρ 1 2 2 < 30) {post : Int32 → Hp → Prop} {px : String → Hp → Prop} (hp : px XS h) : wp_X5_order dE h (ad 7 0) (nI o) post px := by
  have b := v.2.2.2.2.1.2.1
  unfold wp_X5_order
  exact p_optOk ho ⟨fun q => absurd q n10, fun _ => ⟨t_7 r w, _, r_7_2 r w, t_1 r w (by decide) (by decide), t_1 r w (by decide) (by decide), _, i_1_2 r w (by decide) (by decide), fun q => absurd q (nI_nlt (b := 30) (by omega) (by omega)), fun _ => hp⟩⟩
theorem c_order3 (r : RR dE ad ρ μ h) (ww : WI ρ) {o : Nat} (ho : o ≤ 255) (hn : ρ 1 2 2 < 30) {post : Int32 → Hp → Prop} {px : String → Hp → Prop} (hp : ∀ ad' h', AH ad ad' → RR dE ad' (orderS ρ o) μ h' → post (nI (ρ 1 2 2)) h') : wp_X5_order dE h (ad 7 0) (nI o) post px := by
  have w := ww.1
  have cO := ww.2.2.2.1.1 2 (by decide) (by decide)
  obtain ⟨k49, -, -⟩ := capA_le cO (show ρ 1 2 2 < 40 by omega)
  have wz := ww.2.2.2.2.2.1 (ρ 1 2 2)
  unfold orderS at hp
  have nv : ¬ V ρ 2 (ρ 1 2 2) := fun y => by have := (w.2.2.2.2.2.1 _).1.mp y; omega
  have nv24 : ¬ V ρ 24 (ρ 1 2 2) := fun y => by have := (w.2.2.2.2.2.1 _).2.1.mp y; omega
  have b12 := w.2.2.1 2 (by decide) (by decide)
  have xV : ∀ t i, t ≠ 2 → t ≠ 24 → (V (orderI ρ (ρ 1 2 2) o) t i ↔ V ρ t i) := fun t i p q => by unfold V; rw [oI11, if_neg (fun z => z.1.elim p q)]
  have x12 : ∀ t i, t ≠ 2 → orderI ρ (ρ 1 2 2) o 12 t i = ρ 12 t i := fun t i p => by rw [oI12, if_neg (fun z => p z.1)]
  have x1 : ∀ i, orderI ρ (ρ 1 2 2) o 1 i 2 = ρ 1 i 2 := fun i => oIx _ _ _ _ _ _ (by decide)
  have x9 : ∀ i, orderI ρ (ρ 1 2 2) o 9 i 0 = ρ 9 i 0 := fun i => oIx _ _ _ _ _ _ (by decide)
  have wl : WLi (orderI ρ (ρ 1 2 2) o) 2 := by
    have := WA_li w (i := 2) (by decide) (by decide) (by unfold capO at cO; omega) (by unfold capO at cO; omega)
    unfold WLi at this ⊢
    simp only [xV _ _ (show 1 ≠ 2 by decide) (show 1 ≠ 24 by decide), xV _ _ (show 26 ≠ 2 by decide) (show 26 ≠ 24 by decide), x12 _ _ (show 1 ≠ 2 by decide), x1, x9]
    exact this
  have vN : V (orderI ρ (ρ 1 2 2) o) 2 (ρ 1 2 2) := by unfold V; rw [oI11, if_pos ⟨Or.inl rfl, rfl⟩]; decide
  have v1L : V (orderI ρ (ρ 1 2 2) o) 1 2 := (xV _ _ (by decide) (by decide)).mpr b12.1
  have eL : elm (orderI ρ (ρ 1 2 2) o) 2 (orderI ρ (ρ 1 2 2) o 1 2 2) = (2, ρ 1 2 2) := by rw [x1]; rfl
  have kk : capA (orderI ρ (ρ 1 2 2) o 1 2 2) (orderI ρ (ρ 1 2 2) o 9 2 0) ≤ 49 := by rw [x1, x9]; exact k49
  unfold wp_X5_order
  refine p_optOk ho ⟨fun q => absurd q n10, fun _ => ⟨t_7 r w, _, r_7_2 r w, t_1 r w (by decide) (by decide), t_1 r w (by decide) (by decide), _, i_1_2 r w (by decide) (by decide), fun _ => ⟨_, r_7_2 r w, fun q zq h10 e10 => ?_⟩, fun q => absurd (nI_lt (b := 30) hn (by omega)) q⟩⟩
  generalize eN : ρ 1 2 2 = n at *
  have ru : RR dE ad (up ρ 12 2 n 0) μ h := r.unlink nv (by omega)
  have u2 : ∀ j, up ρ 12 2 n 0 2 n j = 0 := fun j => by rw [up_ne (fun z => by cases z.1)]; exact (wz j (Nat.le_refl _)).1
  have r0 := ru.new (t := 2) (i := n) (n := 0) zq (fun y => nv ((V_up (by decide) _ _).mp y)) (by decide) rfl (fun j _ => u2 j) (fun j y hy => by
    have hy : (if j = 2 then (if up ρ 12 2 n 0 12 2 n = 0 then none else some (some (24, n))) else if j = 5 then some (orl 3 (up ρ 12 2 n 0 2 n 5)) else none) = some y := hy
    by_cases j2 : j = 2
    · rw [if_pos j2, up_eq, if_pos rfl] at hy; cases hy
    · rw [if_neg j2] at hy
      by_cases j5 : j = 5
      · rw [if_pos j5, u2] at hy
        injection hy with hy
        rw [← hy]; rfl
      · rw [if_neg j5] at hy; cases hy) (fun e => by cases e) (fun e => by cases e) (fun e => by cases e)
  have e10 : h10 = sN h q (tgL 2) 0 := e10
  rw [← e10] at r0
  have e0 : au ad 2 n q 2 n = q := au_eq
  have v0 : V (up (up ρ 12 2 n 0) 11 2 n 1) 2 n := by unfold V; rw [up_eq]; decide
  unfold wp_X0_init
  refine fun q1 zq1 h2 e2 => ?_
  have nq : q ≠ q1 := fun z => by rw [← z, e10, hT_sN, if_pos rfl] at zq1; cases zq1
  have r1 := r0.new (t := 24) (i := n) (n := 10) zq1 (fun y => nv24 (by unfold V at y ⊢; rw [up_ne (fun z => by cases z.2.1), up_ne (fun z => by cases z.1)] at y; exact y)) (by decide) rfl (fun j hj => by cases hj) (fun j y hy => by
    have hy : some (orl 5 (up (up ρ 12 2 n 0) 11 2 n 1 24 n j)) = some y := hy
    rw [up_ne (fun z => by cases z.1), up_ne (fun z => by cases z.1), (wz j (Nat.le_refl _)).2] at hy
    injection hy with hy
    rw [← hy]; rfl) (fun e => by cases e) (fun e => by cases e) (fun e => by cases e)
  have e2 : h2 = sN h10 q1 (tgL 24) 10 := e2
  rw [← e2] at r1
  have a2 : au (au ad 2 n q) 24 n q1 2 n = q := by rw [au_ne (fun z => by cases z.1), e0]
  have a24 : au (au ad 2 n q) 24 n q1 24 n = q1 := au_eq
  have a7 : ∀ t i, t ≠ 2 → t ≠ 24 → au (au ad 2 n q) 24 n q1 t i = ad t i := fun t i p1 p2 => by rw [au_ne (fun z => p2 z.1), au_ne (fun z => p1 z.1)]
  generalize au (au ad 2 n q) 24 n q1 = ad1 at r1 a2 a24 a7
  have v1 : V (up (up (up ρ 12 2 n 0) 11 2 n 1) 11 24 n 1) 2 n := by unfold V at v0 ⊢; rw [up_ne (fun z => by cases z.2.1)]; exact v0
  have v124 : V (up (up (up ρ 12 2 n 0) 11 2 n 1) 11 24 n 1) 24 n := by unfold V; rw [up_eq]; decide
  refine ⟨by rw [← a2]; exact r1.tag v1, fun h5 e5 h7 e7 h9 e9 h11 e11 h13 e13 h15 e15 h17 e17 h19 e19 h21 e21 => ?_⟩
  have r2 := r1.link (z := n) (j := 2) (p := (24, n)) v1 v124 (fun y hy => by
    have hy : (if 2 = 2 then (if up (up (up (up ρ 12 2 n 0) 11 2 n 1) 11 24 n 1) 12 2 n 1 12 2 n = 0 then none else some (some (24, n))) else if 2 = 5 then some (orl 3 (up (up (up (up ρ 12 2 n 0) 11 2 n 1) 11 24 n 1) 12 2 n 1 2 n 5)) else none) = some y := hy
    rw [if_pos rfl, up_eq, if_neg (by decide)] at hy
    injection hy with hy
    exact hy.symm) (fun a b k _ ne => cr_12 (fun e => ⟨fun z => by omega, fun z => by omega, fun _ => by
      by_cases bn : b = n
      · exact Or.inr (fun k2 => ne ⟨e, bn, k2⟩)
      · exact Or.inl bn⟩))
  have e5 : h5 = sR h2 (ad1 2 n) 2 (some (ad1 (24, n).1 (24, n).2)) := by rw [e5, a2]; show _ = sR h2 q 2 (some (ad1 24 n)); rw [a24]
  rw [← e5] at r2
  have v2 := (V_up (t := 12) (i := 2) (j := n) (v := 1) (by decide) _ _).mpr v1
  have r3 := r2.setI (v := 0) v2 (j := 3) rfl (by decide)
  have e7 : h7 = sI h5 (ad1 2 n) 3 (nI 0) := by rw [a2]; exact e7
  rw [← e7] at r3
  have v3 := (V_up (t := 2) (i := n) (j := 3) (v := 0) (by decide) _ _).mpr v2
  have r4 := r3.setI (v := NN) v3 (j := 4) rfl (by decide)
  have e9 : h9 = sI h7 (ad1 2 n) 4 (nI NN) := by rw [a2, ← lm1]; exact e9
  rw [← e9] at r4
  have v4 := (V_up (t := 2) (i := n) (j := 4) (v := NN) (by decide) _ _).mpr v3
  have r5 := r4.setHeld (v := 0) v4 (fun z => absurd rfl z)
  have e11 : h11 = sR h9 (ad1 2 n) 5 (am ad1 (orl 3 0)) := by rw [a2]; exact e11
  rw [← e11] at r5
  have v5 := (V_up (t := 2) (i := n) (j := 5) (v := 0) (by decide) _ _).mpr v4
  have r6 := r5.setI (v := 0) v5 (j := 6) rfl (by decide)
  have e13 : h13 = sI h11 (ad1 2 n) 6 (nI 0) := by rw [a2]; exact e13
  rw [← e13] at r6
  have v6 := (V_up (t := 2) (i := n) (j := 6) (v := 0) (by decide) _ _).mpr v5
  have r7 := r6.setI (v := 0) v6 (j := 7) rfl (by decide)
  have e15 : h15 = sI h13 (ad1 2 n) 7 (nI 0) := by rw [a2]; exact e15
  rw [← e15] at r7
  have v7 := (V_up (t := 2) (i := n) (j := 7) (v := 0) (by decide) _ _).mpr v6
  have r8 := r7.setI (v := 0) v7 (j := 8) rfl (by decide)
  have e17 : h17 = sI h15 (ad1 2 n) 8 (nI 0) := by rw [a2]; exact e17
  rw [← e17] at r8
  have v8 := (V_up (t := 2) (i := n) (j := 8) (v := 0) (by decide) _ _).mpr v7
  have r9 := r8.setI (v := n) v8 (j := 0) rfl (by decide)
  have e19 : h19 = sI h17 (ad1 2 n) 0 (nI n) := by rw [a2]; exact e19
  rw [← e19] at r9
  have v9 := (V_up (t := 2) (i := n) (j := 0) (v := n) (by decide) _ _).mpr v8
  have r10 := r9.setI (v := o) v9 (j := 1) rfl (by decide)
  have e21 : h21 = sI h19 (ad1 2 n) 1 (nI o) := by rw [a2]; exact e21
  rw [← e21] at r10
  have r10 : RR dE ad1 (orderI ρ n o) μ h21 := r10
  have b11 : ad1 1 2 = ad 1 2 := a7 _ _ (by decide) (by decide)
  refine ⟨by rw [← b11]; exact r10.tag v1L, ?_⟩
  have main := p_add (mc := 1) (ms := 49) (i := 2) (p := (2, n)) r10 wl eL vN (fun _ => ⟨Nat.le_refl _, kk⟩) (post := fun _ h' => post (nI n) h') (fun ad' h' had r' => hp ad' h' ⟨(had 7 0 (by decide)).trans (a7 _ _ (by decide) (by decide)), (had 8 0 (by decide)).trans (a7 _ _ (by decide) (by decide)), (had 22 0 (by decide)).trans (a7 _ _ (by decide) (by decide))⟩ r')
  have e6 : ad1 (2, n).1 (2, n).2 = q := a2
  rw [b11, e6] at main
  exact main
/-! images -/
theorem p_sv2 (r : RR dE ad ρ μ h) {c k : Nat} (hk : k < 10) (v7 : V ρ 7 0) (l7 : ρ 12 7 0 ≠ 0) (v23 : V ρ 23 0) (v4 : V ρ 4 k) (l4 : ρ 12 23 k ≠ 0) (v2 : V ρ 2 c) (l2 : ρ 12 2 c ≠ 0) (v24 : V ρ 24 c) (v5 : ρ 24 c k ≠ 0 → V ρ 5 (ρ 24 c k - 1)) (b3 : ρ 4 k 3 ≤ 1) {post : Int32 → Prop} (hp : post (nI (sv ρ c k))) : wp_X5_softwareVersion h (ad 7 0) (ad 2 c) (nI k) post := by
  have n24 : hL h (ad 24 c) = 10 := r.len v24
  have n23 : hL h (ad 23 0) = 10 := r.len v23
  unfold wp_X5_softwareVersion
  refine ⟨r.tag v2, ad 24 c, r.ref (x := some (24, c)) v2 (by show (if _ then _ else _) = _; rw [if_neg l2]), r.tag v24, k, rfl, by omega, by omega, _, r.ref (x := orl 5 (ρ 24 c k)) v24 rfl, fun J hJ K hK => ⟨fun q => ?_, fun x q => ?_⟩⟩
  · have z : ρ 24 c k = 0 := by
      by_cases z : ρ 24 c k = 0
      · exact z
      · rw [am1 z] at q; cases q
    refine hK (hJ _ ?_)
    rw [sv, if_pos (Or.inl z)] at hp
    exact hp
  · have z : ρ 24 c k ≠ 0 := fun z => by rw [am0 z] at q; cases q
    rw [am1 z] at q
    injection q with q
    subst q
    refine ⟨r.tag v7, ad 23 0, r.ref (x := some (23, 0)) v7 (by show (if _ then _ else _) = _; rw [if_neg l7]; rfl), r.tag v23, k, rfl, by omega, by omega, ad 4 k, r.ref (x := some (4, k)) v23 (by show (if _ then _ else _) = _; rw [if_neg l4]), r.tag v4, _, r.int v4 rfl, fun q3 => ?_, fun q3 => ?_⟩
    · refine hK (hJ _ ?_)
      rw [sv, if_pos (Or.inr ((nI_eq (b := 0) (by omega) (by omega)).mp q3))] at hp
      exact hp
    · refine ⟨r.tag (v5 z), _, r.int (v5 z) rfl, hJ _ ?_⟩
      rw [sv, if_neg (fun y => y.elim z (fun y => q3 (by rw [y]; rfl)))] at hp
      exact hp
theorem p_imageFor (r : RR dE ad ρ μ h) (ww : WI ρ) {c : Nat} (hc : c < ρ 1 2 2) (hn : ρ 1 3 2 < 40) {post : Nat → Hp → Prop} (hp : ∀ ad' h', (∀ t i, t ≠ 3 → t ≠ 19 → ad' t i = ad t i) → RR dE ad' (imgV ρ c (ρ 1 3 2) 10 (imgA ρ (ρ 1 3 2))) μ h' → post (ad' 3 (ρ 1 3 2)) h') : wp_X5_imageFor h (ad 7 0) (ad 2 c) (nI (ρ 1 3 2)) post := by
  have w := ww.1
  have v := ww.2.1
  have wz := ww.2.2.2.2.2.2.1 (ρ 1 3 2)
  have nv : ¬ V ρ 3 (ρ 1 3 2) := fun y => by have := (w.2.2.2.2.2.2.1 _).1.mp y; omega
  have nv19 : ¬ V ρ 19 (ρ 1 3 2) := fun y => by have := (w.2.2.2.2.2.2.1 _).2.1.mp y; omega
  generalize eN : ρ 1 3 2 = n at *
  unfold wp_X5_imageFor
  refine fun q zq h10 e10 => ?_
  have ru : RR dE ad (up ρ 12 3 n 0) μ h := r.unlink nv (by omega)
  have u2 : ∀ j, up ρ 12 3 n 0 3 n j = 0 := fun j => by rw [up_ne (fun z => by cases z.1)]; exact (wz j (Nat.le_refl _)).1
  have r0 := ru.new (t := 3) (i := n) (n := 0) zq (fun y => nv ((V_up (by decide) _ _).mp y)) (by decide) rfl (fun j _ => u2 j) (fun j y hy => by
    have hy : (if up ρ 12 3 n 0 12 3 n = 0 ∨ j ≠ 1 then none else some (some (19, n))) = some y := hy
    rw [if_pos (Or.inl up_eq)] at hy; cases hy) (fun e => by cases e) (fun e => by cases e) (fun e => by cases e)
  have e10 : h10 = sN h q (tgL 3) 0 := e10
  rw [← e10] at r0
  have e0 : au ad 3 n q 3 n = q := au_eq
  have v0 : V (up (up ρ 12 3 n 0) 11 3 n 1) 3 n := by unfold V; rw [up_eq]; decide
  unfold wp_X1_init
  refine fun q1 zq1 h2 e2 => ?_
  have r1 := r0.new (t := 19) (i := n) (n := 10) zq1 (fun y => nv19 (by unfold V at y ⊢; rw [up_ne (fun z => by cases z.2.1), up_ne (fun z => by cases z.1)] at y; exact y)) (by decide) rfl (fun j hj => by rw [up_ne (fun z => by cases z.1), up_ne (fun z => by cases z.1)]; exact (wz j (Nat.le_refl _)).2.1) (fun j y hy => by cases hy) (fun e => by cases e) (fun e => by cases e) (fun e => by cases e)
  have e2 : h2 = sN h10 q1 (tgL 19) 10 := e2
  rw [← e2] at r1
  have a2 : au (au ad 3 n q) 19 n q1 3 n = q := by rw [au_ne (fun z => by cases z.1), e0]
  have a24 : au (au ad 3 n q) 19 n q1 19 n = q1 := au_eq
  have a7 : ∀ t i, t ≠ 3 → t ≠ 19 → au (au ad 3 n q) 19 n q1 t i = ad t i := fun t i p1 p2 => by rw [au_ne (fun z => p2 z.1), au_ne (fun z => p1 z.1)]
  generalize au (au ad 3 n q) 19 n q1 = ad1 at r1 a2 a24 a7
  have v1 : V (up (up (up ρ 12 3 n 0) 11 3 n 1) 11 19 n 1) 3 n := by unfold V at v0 ⊢; rw [up_ne (fun z => by cases z.2.1)]; exact v0
  have v124 : V (up (up (up ρ 12 3 n 0) 11 3 n 1) 11 19 n 1) 19 n := by unfold V; rw [up_eq]; decide
  refine ⟨by rw [← a2]; exact r1.tag v1, fun h5 e5 h7 e7 h9 e9 => ?_⟩
  have r2 := r1.link (z := n) (j := 1) (p := (19, n)) v1 v124 (fun y hy => by
    have hy : (if up (up (up (up ρ 12 3 n 0) 11 3 n 1) 11 19 n 1) 12 3 n 1 12 3 n = 0 ∨ 1 ≠ 1 then none else some (some (19, n))) = some y := hy
    rw [if_neg (fun z => z.elim (fun z => by rw [up_eq] at z; cases z) (fun z => z rfl))] at hy
    injection hy with hy
    exact hy.symm) (fun a b k _ ne => cr_12 (fun e => ⟨fun z => by omega, fun _ => by
      by_cases bn : b = n
      · exact Or.inr (fun k2 => ne ⟨e, bn, k2⟩)
      · exact Or.inl bn, fun z => by omega⟩))
  have e5 : h5 = sR h2 (ad1 3 n) 1 (some (ad1 (19, n).1 (19, n).2)) := by rw [e5, a2]; show _ = sR h2 q 1 (some (ad1 19 n)); rw [a24]
  rw [← e5] at r2
  have v2 := (V_up (t := 12) (i := 3) (j := n) (v := 1) (by decide) _ _).mpr v1
  have r3 := r2.setI (v := 0) v2 (j := 2) rfl (by decide)
  have e7 : h7 = sI h5 (ad1 3 n) 2 (nI 0) := by rw [a2]; exact e7
  rw [← e7] at r3
  have v3 := (V_up (t := 3) (i := n) (j := 2) (v := 0) (by decide) _ _).mpr v2
  have r4 := r3.setI (v := n) v3 (j := 0) rfl (by decide)
  have e9 : h9 = sI h7 (ad1 3 n) 0 (nI n) := by rw [a2]; exact e9
  rw [← e9] at r4
  have r4 : RR dE ad1 (imgA ρ n) μ h9 := r4
  intro J hJ
  refine lpA (J := fun x v => J v x) (fun x v hb => hJ v x hb) 10 (fun k x => RR dE ad1 (imgV ρ c n k (imgA ρ n)) μ x) r4 (fun k x hk e hs => ?_)
  by_cases hk2 : k < 10
  · refine ⟨fun q => absurd q (nI_ge (b := 10) hk2 (by omega)), fun _ => ?_⟩
    have y11 : ∀ t i, imgV ρ c n k (imgA ρ n) 11 t i = if (t = 3 ∨ t = 19) ∧ i = n then 1 else ρ 11 t i := fun t i => by rw [iVx _ _ _ _ _ _ _ _ (by decide), iA11]
    have y12 : ∀ t i, imgV ρ c n k (imgA ρ n) 12 t i = if t = 3 ∧ i = n then 1 else ρ 12 t i := fun t i => by rw [iVx _ _ _ _ _ _ _ _ (by decide), iA12]
    have yV : ∀ t i, t ≠ 3 → t ≠ 19 → V ρ t i → V (imgV ρ c n k (imgA ρ n)) t i := fun t i p q y => by unfold V at y ⊢; rw [y11, if_neg (fun z => z.1.elim p q)]; exact y
    have y24 : ∀ i j, imgV ρ c n k (imgA ρ n) 24 i j = ρ 24 i j := fun i j => iM _ _ _ _ _ _ _ (by decide)
    have y4 : ∀ i j, imgV ρ c n k (imgA ρ n) 4 i j = ρ 4 i j := fun i j => iM _ _ _ _ _ _ _ (by decide)
    have y5 : ∀ i j, imgV ρ c n k (imgA ρ n) 5 i j = ρ 5 i j := fun i j => iM _ _ _ _ _ _ _ (by decide)
    have vI : V (imgV ρ c n k (imgA ρ n)) 3 n := by unfold V; rw [y11, if_pos ⟨Or.inl rfl, rfl⟩]; decide
    have vJ : V (imgV ρ c n k (imgA ρ n)) 19 n := by unfold V; rw [y11, if_pos ⟨Or.inr rfl, rfl⟩]; decide
    have esv : sv (imgV ρ c n k (imgA ρ n)) c k = sv ρ c k := by unfold sv; rw [y24, y4, y5]
    have n19 : hL x (ad1 19 n) = 10 := e.len vJ
    have rf : hR x (ad1 3 n) 1 = some (ad1 19 n) := e.ref (x := some (19, n)) vI (by show (if _ then _ else _) = _; rw [if_neg (fun z => z.elim (fun z => by rw [y12, if_pos ⟨rfl, rfl⟩] at z; cases z) (fun z => z rfl))])
    have w2 := w.2.2.2.2.2.1 c
    rw [← a2, ← a7 7 0 (by decide) (by decide), ← a7 2 c (by decide) (by decide)]
    refine ⟨e.tag vI, ad1 19 n, rf, e.tag (yV 7 0 (by decide) (by decide) w.1.1), ?_⟩
    refine p_sv2 e hk2 (yV _ _ (by decide) (by decide) w.1.1) (by rw [y12, if_neg (fun z => by cases z.1)]; exact w.1.2.2.2.2.1) (yV _ _ (by decide) (by decide) w.1.2.2.1) (yV _ _ (by decide) (by decide) (w.2.1 k hk2).1) (by rw [y12, if_neg (fun z => by cases z.1)]; exact (w.2.1 k hk2).2) (yV _ _ (by decide) (by decide) (w2.1.mpr hc)) (by rw [y12, if_neg (fun z => by cases z.1)]; exact w2.2.2 hc) (yV _ _ (by decide) (by decide) (w2.2.1.mpr hc)) (fun z => yV _ _ (by decide) (by decide) ((w.2.2.2.2.1 _).mpr (by rw [y24] at z ⊢; have := v.2.2.2.2.2.2.2.2.1 c k; omega))) (by rw [y4]; exact (v.1 k).2) ?_
    rw [esv]
    refine ⟨e.tag vJ, k, rfl, by omega, by omega, fun h12 e12 => ?_⟩
    have := hs h12 hk2 (by
      rw [e12]
      exact e.setI (v := sv ρ c k) vJ (j := k) rfl (by decide))
    rw [← nI_1 k] at this
    exact this
  · have : k = 10 := by omega
    subst this
    refine ⟨fun _ => ?_, fun q => absurd (nI_le (Nat.le_refl 10) (by omega)) q⟩
    rw [← a2]
    exact hp ad1 x a7 e
theorem c_build1 (r : RR dE ad ρ μ h) (w : WA ρ) (v : WV ρ) {x : Int32} (hx : NL x (ρ 1 2 2)) {post : Int32 → Hp → Prop} {px : String → Hp → Prop} (hp : px XB h) : wp_X5_build dE h (ad 7 0) x post px := by
  unfold wp_X5_build
  exact ⟨t_7 r w, p_exCarNo r w v hx hp⟩
theorem c_build (r : RR dE ad ρ μ h) (ww : WI ρ) {c : Nat} (hc : c < ρ 1 2 2) {post : Int32 → Hp → Prop} {px : String → Hp → Prop} (h2 : ∀ i, i < ρ 1 3 2 → built ρ i c = true → post (nI i) h) (h3 : (∀ n, n < ρ 1 3 2 → built ρ n c = false) → ¬ ρ 1 3 2 < 40 → px XS h) (h4 : (∀ n, n < ρ 1 3 2 → built ρ n c = false) → ρ 1 3 2 < 40 → ∀ ad' h', AH ad ad' → RR dE ad' (imgS ρ c) μ h' → post (nI (ρ 1 3 2)) h') : wp_X5_build dE h (ad 7 0) (nI c) post px := by
  have w := ww.1
  have v := ww.2.1
  have b40 := v.2.2.2.2.1.2.2.1
  have cO := ww.2.2.2.1.1 3 (by decide) (by decide)
  unfold wp_X5_build
  refine ⟨t_7 r w, p_exCar r w v hc (fun J hJ => ?_)⟩
  refine lp (J := J) hJ (ρ 1 3 2) (fun i => ∀ m, m < i → built ρ m c = false) (fun m hm => absurd hm (Nat.not_lt_zero m)) (fun i hi e hs => ?_)
  refine ⟨_, r_7_3 r w, t_1 r w (by decide) (by decide), t_1 r w (by decide) (by decide), _, i_1_2 r w (by decide) (by decide), fun q => ?_, fun q => ?_⟩
  · have := (nI_leI (by omega) (by omega)).mp q
    have : i = ρ 1 3 2 := by omega
    subst this
    refine ⟨_, r_7_3 r w, t_1 r w (by decide) (by decide), t_1 r w (by decide) (by decide), _, i_1_2 r w (by decide) (by decide), fun q => ?_, fun q => ?_⟩
    · have hn : ρ 1 3 2 < 40 := (nI_ltI (b := 40) (by omega) (by omega)).mp q
      obtain ⟨k49, -, -⟩ := capA_le cO hn
      refine ⟨_, r_7_3 r w, p_imageFor r ww hc hn (fun ad1 h1 a7 r1 => ?_)⟩
      have y11 : ∀ t i, imgV ρ c (ρ 1 3 2) 10 (imgA ρ (ρ 1 3 2)) 11 t i = if (t = 3 ∨ t = 19) ∧ i = ρ 1 3 2 then 1 else ρ 11 t i := fun t i => by rw [iVx _ _ _ _ _ _ _ _ (by decide), iA11]
      have xV : ∀ t i, t ≠ 3 → t ≠ 19 → (V (imgV ρ c (ρ 1 3 2) 10 (imgA ρ (ρ 1 3 2))) t i ↔ V ρ t i) := fun t i p q => by unfold V; rw [y11, if_neg (fun z => z.1.elim p q)]
      have x12 : ∀ t i, t ≠ 3 → imgV ρ c (ρ 1 3 2) 10 (imgA ρ (ρ 1 3 2)) 12 t i = ρ 12 t i := fun t i p => by rw [iVx _ _ _ _ _ _ _ _ (by decide), iA12, if_neg (fun z => p z.1)]
      have x1 : ∀ i, imgV ρ c (ρ 1 3 2) 10 (imgA ρ (ρ 1 3 2)) 1 i 2 = ρ 1 i 2 := fun i => iM _ _ _ _ _ _ _ (by decide)
      have x9 : ∀ i, imgV ρ c (ρ 1 3 2) 10 (imgA ρ (ρ 1 3 2)) 9 i 0 = ρ 9 i 0 := fun i => iM _ _ _ _ _ _ _ (by decide)
      have wl : WLi (imgV ρ c (ρ 1 3 2) 10 (imgA ρ (ρ 1 3 2))) 3 := by
        have := WA_li w (i := 3) (by decide) (by decide) (by unfold capO at cO; omega) (by unfold capO at cO; omega)
        unfold WLi at this ⊢
        simp only [xV _ _ (show 1 ≠ 3 by decide) (show 1 ≠ 19 by decide), xV _ _ (show 26 ≠ 3 by decide) (show 26 ≠ 19 by decide), x12 _ _ (show 1 ≠ 3 by decide), x1, x9]
        exact this
      have vI : V (imgV ρ c (ρ 1 3 2) 10 (imgA ρ (ρ 1 3 2))) 3 (ρ 1 3 2) := by unfold V; rw [y11, if_pos ⟨Or.inl rfl, rfl⟩]; decide
      have v1 : V (imgV ρ c (ρ 1 3 2) 10 (imgA ρ (ρ 1 3 2))) 1 3 := (xV _ _ (by decide) (by decide)).mpr (w.2.2.1 3 (by decide) (by decide)).1
      rw [← a7 1 3 (by decide) (by decide)]
      refine ⟨r1.tag v1, ?_⟩
      exact p_add (mc := 1) (ms := 49) (i := 3) (p := (3, ρ 1 3 2)) r1 wl (by rw [x1]; rfl) vI (fun _ => ⟨Nat.le_refl _, by rw [x1, x9]; exact k49⟩) (post := fun _ h' => post (nI (ρ 1 3 2)) h') (fun ad' h' had r' => h4 e hn ad' h' ⟨(had 7 0 (by decide)).trans (a7 _ _ (by decide) (by decide)), (had 8 0 (by decide)).trans (a7 _ _ (by decide) (by decide)), (had 22 0 (by decide)).trans (a7 _ _ (by decide) (by decide))⟩ r')
    · exact h3 e (fun z => q (nI_lt (b := 40) z (by omega)))
  · have hi2 : i < ρ 1 3 2 := by
      by_cases z : i < ρ 1 3 2
      · exact z
      · exact absurd (nI_le (by omega) (by omega)) q
    refine ⟨_, r_7_3 r w, t_1 r w (by decide) (by decide), p_getI r w hi2 ⟨t_3 r w hi2, p_built r w v hi2 hc (fun b hb => ?_)⟩⟩
    cases b with
    | false =>
      refine ⟨fun _ => ?_, fun q => absurd rfl q⟩
      rw [nI_1]
      exact hs hi2 (fun m hm => by
        by_cases z : m = i
        · rw [z]; exact hb.symm
        · exact e m (by omega))
    | true => exact ⟨fun q => absurd q n10, fun _ => h2 i hi2 hb.symm⟩
end LN
