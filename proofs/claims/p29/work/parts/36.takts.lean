/-! in from the orders; takts -/
def ordersS (σ : St) : St := if σ 25 0 0 = 0 ∧ σ 10 0 0 < σ 1 2 2 then toLine (up σ 10 0 0 (σ 10 0 0 + 1)) (σ 10 0 0) 0 else σ
theorem HX_orders {σ : St} (w : WW σ) : HX σ (ordersS σ) := by
  unfold ordersS
  by_cases q : σ 25 0 0 = 0 ∧ σ 10 0 0 < σ 1 2 2
  · rw [if_pos q]
    obtain ⟨q1, q2⟩ := q
    obtain ⟨wi, ⟨h1, h2, h3, h4, h5, h6⟩, wp⟩ := w
    have e0 : σ 2 (σ 10 0 0) 3 = 0 := (h5.2 _ q2).mpr (Nat.le_refl _)
    generalize eb : σ 10 0 0 = b at *
    have u1 : ∀ i k, up σ 10 0 0 (b + 1) 1 i k = σ 1 i k := fun i k => up_ne (fun z => by cases z.1)
    have u2 : ∀ i k, up σ 10 0 0 (b + 1) 2 i k = σ 2 i k := fun i k => up_ne (fun z => by cases z.1)
    have u25 : ∀ i k, up σ 10 0 0 (b + 1) 25 i k = σ 25 i k := fun i k => up_ne (fun z => by cases z.1)
    have rq : WQ (up σ 10 0 0 (b + 1)) b := by
      unfold WQ
      simp only [u1, u2, u25, up_eq]
      refine ⟨fun x hx => ?_, ⟨by omega, fun x hx ne => ?_⟩, fun x hx _ => h6 x hx⟩
      · obtain ⟨p1, p2, p3, p4⟩ := h1 x hx
        exact ⟨p1, p2, fun z => by rw [z] at p3; omega, p3, p4⟩
      · have := h5.2 x hx
        rw [eb] at this
        rw [this]; omega
    have xx : ∀ a b' k, a ≠ 2 → a ≠ 25 → a ≠ 10 → toLine (up σ 10 0 0 (b + 1)) b 0 a b' k = σ a b' k := fun a b' k p1 p2 p3 => (tlx _ _ _ _ _ _ ⟨p1, p2⟩).trans (up_ne (fun z => p3 z.1))
    obtain ⟨g1, g5, g6⟩ := WX_line (s := 0) rq (by rw [u1]; exact q2) (by decide) (by rw [up_eq]; omega)
    refine ⟨⟨WI_line (WI_up wi (by simp [okU])) (by rw [u1]; exact q2) (by decide), ⟨g1, fun j hj => ?_, fun j j' hj hj' => ?_, ?_, g5, g6⟩, WPk_cong wp (fun p j => xx _ _ _ (by decide) (by decide) (by decide)) (fun p j => xx _ _ _ (by decide) (by decide) (by decide)) (xx _ _ _ (by decide) (by decide) (by decide)) (xx _ _ _ (by decide) (by decide) (by decide))⟩, fun i _ => xx _ _ _ (by decide) (by decide) (by decide), xx _ _ _ (by decide) (by decide) (by decide)⟩
    · rw [xx _ _ _ (by decide) (by decide) (by decide)] at hj
      obtain ⟨z1, z2, z3⟩ := h2 j hj
      rw [xx 26 _ _ (by decide) (by decide) (by decide), xx 27 _ _ (by decide) (by decide) (by decide), xx 1 _ _ (by decide) (by decide) (by decide), tl3, if_neg (fun z => by rw [z] at z3; omega), u2]
      exact ⟨z1, z2, z3⟩
    · rw [xx _ _ _ (by decide) (by decide) (by decide)] at hj hj'
      rw [xx 27 _ _ (by decide) (by decide) (by decide), xx 27 _ _ (by decide) (by decide) (by decide)]
      exact h3 j j' hj hj'
    · rw [xx 1 _ _ (by decide) (by decide) (by decide), tlx _ _ _ _ _ _ (by decide), up_ne (fun z => by cases z.2.2)]
      exact h4
  · rw [if_neg q]; exact HX_refl w
def innS (σ : St) : St := ordersS (laneS (moveN 7 (leaveS (backN 8 σ))))
def taktS (σ : St) : St := up (workN (innS σ) 8) 7 0 7 (workN (innS σ) 8 7 0 7 + 1)
def taktN : Nat → St → St
  | 0, σ => σ
  | n + 1, σ => taktS (taktN n σ)
def goneN : Nat → St → Nat
  | 0, _ => 0
  | n + 1, σ => goneN n σ + (leaveB (backN 8 (taktN n σ))).toNat
/-- what takts leave -/
def TX (σ τ : St) (n : Nat) : Prop := WW τ ∧ (∀ i, i ≠ 4 → i ≠ 5 → τ 1 i 2 = σ 1 i 2) ∧ σ 1 5 2 ≤ τ 1 5 2 ∧ τ 1 5 2 ≤ σ 1 5 2 + n ∧ σ 9 5 0 ≤ τ 9 5 0
theorem HX_backN {n : Nat} : ∀ {σ : St}, WW σ → n ≤ 8 → HX σ (backN n σ) := by
  induction n with
  | zero => exact fun w _ => HX_refl w
  | succ n ih =>
    intro σ w hn
    have g := HX_backS w (s := n) (by omega)
    exact HX_trans g (ih g.1 (by omega))
theorem HX_inn {σ : St} (w : WW σ) : HX σ (innS σ) := by
  have g1 := HX_backN w (n := 8) (Nat.le_refl _)
  have g2 := HX_leave g1.1
  have g3 := HX_moveN g2.1 (n := 7) (Nat.le_refl _)
  have g4 := HX_laneS g3.1
  have g5 := HX_orders g4.1
  exact HX_trans (HX_trans (HX_trans (HX_trans g1 g2) g3) g4) g5
theorem TX_taktS {σ : St} (w : WW σ) (hb : σ 1 5 2 < 19000000) : TX σ (taktS σ) 20 := by
  have a := HX_inn w
  have a5 := a.2.1 5 (by decide)
  have b := GX_workN a.1 (by omega) 8
  have k10 := ksum_le (σ := innS σ) (s := 8) 10
  unfold taktS
  refine ⟨WW_up b.1 (by simp [okU]) (by decide), fun i h4 h5 => ?_, ?_, ?_, ?_⟩
  · rw [up_ne (fun z => by cases z.1), b.2.1 i h5, a.2.1 i h4]
  · rw [up_ne (fun z => by cases z.1)]
    have := b.2.2.2.2.2.1
    omega
  · rw [up_ne (fun z => by cases z.1)]
    have := b.2.2.2.2.2.2.1
    omega
  · rw [up_ne (fun z => by cases z.1)]
    have := b.2.2.2.2.2.2.2
    have := a.2.2
    omega
theorem TX_taktN {σ : St} (w : WW σ) (hb : σ 1 5 2 < 18000000) : ∀ n, n ≤ 20 → TX σ (taktN n σ) (20 * n) := by
  intro n
  induction n with
  | zero => exact fun _ => ⟨w, fun _ _ _ => rfl, Nat.le_refl _, by show σ 1 5 2 ≤ σ 1 5 2 + 20 * 0; omega, Nat.le_refl _⟩
  | succ n ih =>
    intro hn
    obtain ⟨a1, a2, a3, a4, a5⟩ := ih (by omega)
    obtain ⟨b1, b2, b3, b4, b5⟩ := TX_taktS a1 (by omega)
    refine ⟨b1, fun i h4 h5 => (b2 i h4 h5).trans (a2 i h4 h5), ?_, ?_, ?_⟩
    · show _ ≤ taktS (taktN n σ) 1 5 2; omega
    · show taktS (taktN n σ) 1 5 2 ≤ _; omega
    · show _ ≤ taktS (taktN n σ) 9 5 0; omega
theorem taktN_cap {σ : St} (w : WW σ) (hb : σ 1 5 2 < 18000000) {k n : Nat} (h : k ≤ n) (hn : n ≤ 20) : taktN k σ 9 5 0 ≤ taktN n σ 9 5 0 := by
  induction n with
  | zero =>
    have : k = 0 := by omega
    rw [this]; exact Nat.le_refl _
  | succ n ih =>
    by_cases e : k = n + 1
    · rw [e]; exact Nat.le_refl _
    · have g := TX_taktN w hb n (by omega)
      have g2 := TX_taktS g.1 (by have := g.2.2.2.1; omega)
      exact Nat.le_trans (ih (by omega) (by omega)) g2.2.2.2.2
section LO
variable {dE : Nat} {ad : Nat → Nat → Nat} {ρ : St} {μ : Mu} {h : Hp}
theorem p_comeFromOrders (r : RR dE ad ρ μ h) (ww : WW ρ) {post : Hp → Prop} (hp : ∀ h', RR dE ad (ordersS ρ) μ h' → post h') : wp_X5_comeFromOrders h (ad 7 0) post := by
  have w := ww.1.1
  have v := ww.1.2.1
  have c30 : ρ 1 2 2 ≤ 30 := v.2.2.2.2.1.2.1
  have h5 := ww.2.1.2.2.2.2.1
  unfold wp_X5_comeFromOrders
  refine ⟨t_7 r w, _, r_7_6 r w, t_25 r w, by rw [n_25 r w]; decide, _, r_25 r w, fun y => ?_, fun x6 y => ?_⟩
  · have z : ρ 25 0 0 = 0 := by
      by_cases z : ρ 25 0 0 = 0
      · exact z
      · rw [am1 z] at y; cases y
    intro J hJ
    refine lp (J := J) hJ (ρ 1 2 2) (fun k => ∀ c, c < k → ρ 2 c 3 ≠ 0) (fun c hc => absurd hc (Nat.not_lt_zero c)) (fun k hk e hs => ?_)
    by_cases hk2 : k < ρ 1 2 2
    · have b3 := (v.2.2.1 k).1
      have nle : ¬ ρ 1 2 2 ≤ k := by omega
      refine ⟨_, r_7_2 r w, t_1 r w (by decide) (by decide), t_1 r w (by decide) (by decide), _, i_1_2 r w (by decide) (by decide), fun q => absurd q (nI_ge hk2 (by omega)), fun _ => ?_⟩
      refine ⟨_, r_7_2 r w, t_1 r w (by decide) (by decide), p_getC r w hk2 ⟨t_2 r w hk2, _, i_2_3 r w hk2, fun q => ?_, fun q => ?_⟩⟩
      · have e0 : ρ 2 k 3 = 0 := (nI_eq (b := 0) (by omega) (by omega)).mp q
        have eb : ρ 10 0 0 = k := by
          have h1 := (h5.2 k hk2).mp e0
          by_cases q2 : ρ 10 0 0 = k
          · exact q2
          · have lt : ρ 10 0 0 < k := by omega
            exact absurd ((h5.2 _ (by omega)).mpr (Nat.le_refl _)) (e _ lt)
        have r1 : RR dE ad (up ρ 10 0 0 (k + 1)) μ h := r.irr rfl rfl
        have w1 : WA (up ρ 10 0 0 (k + 1)) := WA_up w (by omega) (by decide) (by decide) (by decide)
        have u1 : ∀ i j, up ρ 10 0 0 (k + 1) 1 i j = ρ 1 i j := fun i j => up_ne (fun z => by cases z.1)
        have u2 : ∀ i j, up ρ 10 0 0 (k + 1) 2 i j = ρ 2 i j := fun i j => up_ne (fun z => by cases z.1)
        have main := p_enterLine0 (s := 0) r1 w1 (c := k) (by rw [u1]; exact hk2) (by rw [u2, e0]; decide) (by rw [u2, e0]; decide) (by decide) (post := post) (fun h' r' => hp h' (by
          rw [ordersS, if_pos ⟨z, by rw [eb]; exact hk2⟩, eb]
          exact r'))
        exact main
      · have e0 : ρ 2 k 3 ≠ 0 := fun z => q (by rw [z]; rfl)
        have := hs hk2 (fun c hc => by
          by_cases q2 : c = k
          · rw [q2]; exact e0
          · exact e c (by omega))
        rw [← nI_1 k] at this
        exact this
    · have : k = ρ 1 2 2 := by omega
      subst this
      refine ⟨_, r_7_2 r w, t_1 r w (by decide) (by decide), t_1 r w (by decide) (by decide), _, i_1_2 r w (by decide) (by decide), fun _ => hp h ?_, fun q => absurd (nI_le (Nat.le_refl _) (by omega)) q⟩
      rw [ordersS, if_neg (fun q => e _ q.2 ((h5.2 _ q.2).mpr (Nat.le_refl _)))]
      exact r
  · have z : ¬ ρ 25 0 0 = 0 := fun z => by rw [am0 z] at y; cases y
    refine hp h ?_
    rw [ordersS, if_neg (fun q => z q.1)]
    exact r
theorem p_takt1 (r : RR dE ad ρ μ h) (ww : WW ρ) (hb : ρ 1 5 2 < 18000000) {t : Nat} (t1 : 1 ≤ t) (t20 : t ≤ 20) {mc ms : Nat} (h1 : 48 * t ≤ mc) (h2 : 452 * t + 4 * (taktN t ρ 9 5 0 - ρ 9 5 0) ≤ ms) {post : Int32 → Hp → Prop} {px : String → Hp → Prop} (hp : ∀ ad' h', AG ad ad' → RR dE ad' (taktN t ρ) μ h' → post (nI (goneN t ρ)) h') : wp_X5_takt dE mc ms h (ad 7 0) (nI t) post px := by
  unfold wp_X5_takt
  intro X hX
  refine ⟨fun q => absurd q (nI_nlt (b := 1) (by omega) (by omega)), fun _ => ⟨fun _ => ?_, fun q => absurd (nI_le (b := 20) t20 (by omega)) q⟩⟩
  intro J hJ
  refine lpA (J := fun (x : Int32 × Hp × Nat × Nat) v => J x.1 v x.2.1 x.2.2.1 x.2.2.2) (x := (nI 0, h, 0, 0)) (fun x v hb => hJ x.1 v x.2.1 x.2.2.1 x.2.2.2 hb) t (fun k x => ∃ ad', AG ad ad' ∧ x.1 = nI (goneN k ρ) ∧ RR dE ad' (taktN k ρ) μ x.2.1 ∧ x.2.2.1 ≤ 48 * k ∧ x.2.2.2 + 4 * ρ 9 5 0 ≤ 452 * k + 4 * taktN k ρ 9 5 0) ⟨ad, AG_refl, rfl, r, Nat.zero_le _, by show 0 + 4 * ρ 9 5 0 ≤ 452 * 0 + 4 * ρ 9 5 0; omega⟩ (fun k x hk e hst => ?_)
  obtain ⟨g0, h', c2, s2⟩ := x
  obtain ⟨ad', ag, e0, r', bc, bs⟩ := e
  have e0 : g0 = nI (goneN k ρ) := e0
  subst e0
  have r' : RR dE ad' (taktN k ρ) μ h' := r'
  have bc : c2 ≤ 48 * k := bc
  have bs : s2 + 4 * ρ 9 5 0 ≤ 452 * k + 4 * taktN k ρ 9 5 0 := bs
  have a7 : ad' 7 0 = ad 7 0 := ag 7 0 (by decide) (by decide)
  show (nI t ≤ nI k → post (nI (goneN k ρ)) h') ∧ _
  dsimp only
  by_cases hk2 : k < t
  · refine ⟨fun q => absurd q (nI_ge hk2 (by omega)), fun _ => ?_⟩
    have tx := TX_taktN ww hb k (by omega)
    have mono := taktN_cap ww hb (k := k + 1) (n := t) (by omega) t20
    have hst' : ∀ y : Int32 × Hp × Nat × Nat, _ := fun y => hst y hk2
    have stp : taktN (k + 1) ρ = taktS (taktN k ρ) := rfl
    have stg : goneN (k + 1) ρ = goneN k ρ + (leaveB (backN 8 (taktN k ρ))).toNat := rfl
    clear hst
    have wt := tx.1
    have picks := tx.2.2.2.1
    rw [stp] at mono
    rw [stp, stg] at hst'
    generalize eτ : taktN k ρ = τ at r' bs wt picks mono hst' stg
    have i1 := HX_backN wt (n := 8) (Nat.le_refl _)
    have i2 := HX_leave i1.1
    have i3 := HX_moveN i2.1 (n := 7) (Nat.le_refl _)
    have i4 := HX_laneS i3.1
    have i5 := HX_orders i4.1
    have inn : HX τ (innS τ) := HX_inn wt
    have inn5 := inn.2.1 5 (by decide)
    have inn9 := inn.2.2
    have gw := GX_workN inn.1 (by omega) 8
    have g9 := gw.2.2.2.2.2.2.2
    have c9 : taktS τ 9 5 0 = workN (innS τ) 8 9 5 0 := up_ne (fun z => by cases z.1)
    rw [c9] at mono
    refine ⟨8, 392, by omega, by omega, ?_⟩
    rw [← a7]
    refine ⟨t_7 r' wt.1.1, p_sendBackToLane r' wt (Nat.le_refl _) (Nat.le_refl _) (fun ad1 h1' ag1 _ r1 => ?_)⟩
    have b7 : ad1 7 0 = ad' 7 0 := ag1 7 0 (by decide) (by decide)
    rw [← b7]
    refine ⟨t_7 r1 i1.1.1.1, p_leaveLine r1 i1.1 (fun h2' r2 K hK => ?_)⟩
    have main : K (nI (goneN k ρ + (leaveB (backN 8 τ)).toNat)) := by
      refine hK _ ⟨t_7 r2 i2.1.1.1, p_moveOn r2 i2.1 (fun h3 r3 => ⟨t_7 r3 i3.1.1.1, p_comeFromLane r3 i3.1 (fun h4 r4 => ⟨t_7 r4 i4.1.1.1, p_comeFromOrders r4 i4.1 (fun h5 r5 => ?_)⟩)⟩)⟩
      have r5 : RR dE ad1 (innS τ) μ h5 := r5
      refine ⟨40, 60 + 4 * (workN (innS τ) 8 9 5 0 - innS τ 9 5 0), by omega, by omega, t_7 r5 inn.1.1.1, p_workOnLine r5 inn.1 (by omega) (Nat.le_refl _) (Nat.le_refl _) (fun ad2 h6 ag2 r6 => ?_)⟩
      have d7 : ad2 7 0 = ad1 7 0 := ag2 7 0 (by decide) (by decide)
      rw [← d7]
      refine ⟨t_7 r6 gw.1.1.1, _, i_7_7 r6 gw.1.1.1, fun h7 e7 => ?_⟩
      have r7 : RR dE ad2 (taktS τ) μ h7 := by
        rw [e7, nI_1]
        exact r6.setI gw.1.1.1.1.1 rfl (by decide)
      have := hst' (nI (goneN k ρ + (leaveB (backN 8 τ)).toNat), h7, c2 + 8 + 0 + 0 + 0 + 0 + 40, s2 + 392 + 0 + 0 + 0 + 0 + (60 + 4 * (workN (innS τ) 8 9 5 0 - innS τ 9 5 0))) ⟨ad2, AG_trans (AG_trans ag ag1) ag2, rfl, r7, by show c2 + 8 + 0 + 0 + 0 + 0 + 40 ≤ _; omega, by
        show s2 + 392 + 0 + 0 + 0 + 0 + (60 + 4 * (workN (innS τ) 8 9 5 0 - innS τ 9 5 0)) + _ ≤ _
        rw [c9]; omega⟩
      rw [← nI_1 k] at this
      exact this
    cases eb : leaveB (backN 8 τ) with
    | false =>
      rw [eb] at main
      exact ⟨fun _ => main, fun q => absurd rfl q⟩
    | true =>
      rw [eb] at main
      refine ⟨fun q => absurd q (by decide), fun _ => ?_⟩
      rw [nI_1]
      exact main
  · have : k = t := by omega
    subst this
    exact ⟨fun _ => hp ad' h' ag r', fun q => absurd (nI_le (Nat.le_refl _) (by omega)) q⟩
end LO
