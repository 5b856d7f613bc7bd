/-! the law: its loop and its end -/
/-- car 0, if there is one and a place for an image: what build leaves -/
def TB (dE mc ms : Nat) (h : Hp) (y : Nat) (K : Hp → Nat → Nat → Prop) (x : Int32) (cc ss : Nat) : Prop :=
  ((x < 0 → K h (cc + 1) (ss + 6)) ∧ (¬ (x < 0) → (hT h y = 7 ∧ wp_X5_images h y (fun x31 => (((40 : Int32) ≤ x31 → K h (cc + 1 + 0) (ss + 6 + 0)) ∧ (¬ ((40 : Int32) ≤ x31) → (cc + 1 + 0 + 4 ≤ mc ∧ (ss + 6 + 0 + 68 ≤ ms ∧ wp_X5_build dE h y (0 : Int32) (fun _ h34 => K h34 (cc + 1 + 0 + 4) (ss + 6 + 0 + 68)) (fun _ _ => False)))))))))
def TA (dE mc ms : Nat) (h : Hp) (x0 : Nat) (K J : Hp → Nat → Nat → Prop) (x : Int32) (cc ss : Nat) : Prop :=
  ((x < 0 → K h (cc + 1) (ss + 6)) ∧ (¬ (x < 0) → (hT h x0 = 7 ∧ wp_X5_images h x0 (fun x37 => ((x37 = (40 : Int32) → K h (cc + 1 + 0) (ss + 6 + 0)) ∧ (¬ (x37 = (40 : Int32)) → (cc + 1 + 0 + 4 ≤ mc ∧ (ss + 6 + 0 + 68 ≤ ms ∧ wp_X5_build dE h x0 (0 : Int32) (fun x40 h40 =>
    (cc + 1 + 0 + 4 + 4 ≤ mc ∧ (ss + 6 + 0 + 68 + 68 ≤ ms ∧ (hT h40 x0 = 7 ∧ wp_X5_build dE h40 x0 (0 : Int32) (fun x42 h42 => ((x40 = x42 → K h42 (cc + 1 + 0 + 4 + 4) (ss + 6 + 0 + 68 + 68)) ∧ (¬ (x40 = x42) → J h42 (cc + 1 + 0 + 4 + 4) (ss + 6 + 0 + 68 + 68)))) (fun _ _ => False))))) (fun _ _ => False)))))))))
theorem sv_img {σ : St} {c k : Nat} : sv (imgS σ c) c k = sv σ c k := by
  unfold sv
  rw [iSx _ _ _ _ _ (by decide), iSx _ _ _ _ _ (by decide), iSx _ _ _ _ _ (by decide)]
/-- one and the same state behind both -/
theorem pbr {σ : St} (w : WE σ) : ∃ S, ST σ S 0 ∧ ∃ x : Int32,
    (∀ (dE : Nat) (ad : Nat → Nat → Nat) (μ : Mu) (h : Hp) (F : Int32 → Prop), RR dE ad σ μ h → F x → wp_L_whereIs h (ad 7 0) 0 F) ∧
    (∀ (dE mc ms : Nat) (ad : Nat → Nat → Nat) (μ : Mu) (h : Hp) (K : Hp → Nat → Nat → Prop) (cc ss : Nat), RR dE ad σ μ h → cc + 5 ≤ mc → ss + 74 ≤ ms → (∀ ad' h' c' s', ad' 7 0 = ad 7 0 → RR dE ad' S μ h' → c' ≤ cc + 5 → s' ≤ ss + 74 → K h' c' s') → TB dE mc ms h (ad 7 0) K x cc ss) ∧
    (∀ (dE mc ms : Nat) (ad : Nat → Nat → Nat) (μ : Mu) (h : Hp) (K J : Hp → Nat → Nat → Prop) (cc ss : Nat), RR dE ad σ μ h → cc + 9 ≤ mc → ss + 142 ≤ ms → (∀ ad' h' c' s', ad' 7 0 = ad 7 0 → RR dE ad' S μ h' → c' ≤ cc + 9 → s' ≤ ss + 142 → K h' c' s') → TA dE mc ms h (ad 7 0) K J x cc ss) := by
  have wa := w.1.1.1
  have wv := w.1.1.2.1
  have c30 := wv.2.2.2.2.1.2.1
  have i40 := wv.2.2.2.2.1.2.2.1
  have b3 := (wv.2.2.1 0).1
  by_cases h0 : 0 < σ 1 2 2
  · have ng : ¬ nI (σ 2 0 3) < 0 := nge0 (by omega)
    have wh : ∀ (dE : Nat) (ad : Nat → Nat → Nat) (μ : Mu) (h : Hp) (F : Int32 → Prop), RR dE ad σ μ h → F (nI (σ 2 0 3)) → wp_L_whereIs h (ad 7 0) 0 F := fun dE ad μ h F r hf => ⟨t_7 r wa, c_whereIs2 r wa wv h0 hf⟩
    by_cases h40 : σ 1 3 2 < 40
    · have ne40 : ¬ nI (σ 1 3 2) = 40 := fun e => by
        have := (nI_eq (b := 40) (by omega) (by omega)).mp e
        omega
      by_cases hb : ∃ i, i < σ 1 3 2 ∧ built σ i 0 = true
      · obtain ⟨i, hi, bi⟩ := hb
        have one : ∀ {dE : Nat} {ad : Nat → Nat → Nat} {μ : Mu} {h : Hp} {post : Int32 → Hp → Prop} {px : String → Hp → Prop}, RR dE ad σ μ h → post (nI i) h → wp_X5_build dE h (ad 7 0) 0 post px := fun {dE ad μ h post px} r hp =>
          c_build r w.1.1 h0 (fun j hj bj => by rw [← built_1 w hi hj bi bj]; exact hp) (fun none => absurd (none i hi) (by rw [bi]; decide)) (fun none => absurd (none i hi) (by rw [bi]; decide))
        refine ⟨σ, ST_refl w, _, wh, fun dE mc ms ad μ h K cc ss r h1 h2 hp => ⟨fun z => absurd z ng, fun _ => ⟨t_7 r wa, c_images r wa ⟨fun _ => hp _ _ _ _ rfl r (by omega) (by omega), fun _ => ⟨by omega, by omega, one r (hp _ _ _ _ rfl r (by omega) (by omega))⟩⟩⟩⟩, fun dE mc ms ad μ h K J cc ss r h1 h2 hp => ⟨fun z => absurd z ng, fun _ => ⟨t_7 r wa, c_images r wa ⟨fun z => absurd z ne40, fun _ => ⟨by omega, by omega, one r ⟨by omega, by omega, t_7 r wa, one r ⟨fun _ => hp _ _ _ _ rfl r (by omega) (by omega), fun z => absurd rfl z⟩⟩⟩⟩⟩⟩⟩
      · have none : ∀ n, n < σ 1 3 2 → built σ n 0 = false := fun n hn => by
          cases e : built σ n 0 with
          | false => rfl
          | true => exact absurd ⟨n, hn, e⟩ hb
        have st := ST_img w h40 none
        have w2 := st.1
        have one : ∀ {dE : Nat} {ad : Nat → Nat → Nat} {μ : Mu} {h : Hp} {post : Int32 → Hp → Prop} {px : String → Hp → Prop}, RR dE ad σ μ h → (∀ ad' h', ad' 7 0 = ad 7 0 → RR dE ad' (imgS σ 0) μ h' → post (nI (σ 1 3 2)) h') → wp_X5_build dE h (ad 7 0) 0 post px := fun {dE ad μ h post px} r hp =>
          c_build r w.1.1 h0 (fun j hj bj => absurd ⟨j, hj, bj⟩ hb) (fun _ z => absurd h40 z) (fun _ _ ad' h' ah r' => hp ad' h' ah.1 r')
        have e13 : imgS σ 0 1 3 2 = σ 1 3 2 + 1 := by rw [iS1, if_pos rfl]
        have e12 : imgS σ 0 1 2 2 = σ 1 2 2 := by rw [iS1, if_neg (by decide)]
        have bb : built (imgS σ 0) (σ 1 3 2) 0 = true := by
          have : true = built (imgS σ 0) (σ 1 3 2) 0 := all10_t (fun k hk => by
            rw [iS19, if_pos ⟨rfl, hk⟩, sv_img]
            exact decide_eq_true rfl)
          exact this.symm
        have two : ∀ {dE : Nat} {ad : Nat → Nat → Nat} {μ : Mu} {h : Hp} {post : Int32 → Hp → Prop} {px : String → Hp → Prop}, RR dE ad (imgS σ 0) μ h → post (nI (σ 1 3 2)) h → wp_X5_build dE h (ad 7 0) 0 post px := fun {dE ad μ h post px} r hp =>
          c_build r w2.1.1 (by rw [e12]; exact h0) (fun j hj bj => by rw [← built_1 w2 (i := σ 1 3 2) (by omega) hj bb bj]; exact hp) (fun none => absurd (none _ (by rw [e13]; exact Nat.lt_succ_self _)) (by rw [bb]; decide)) (fun none => absurd (none _ (by rw [e13]; exact Nat.lt_succ_self _)) (by rw [bb]; decide))
        refine ⟨imgS σ 0, st, _, wh, fun dE mc ms ad μ h K cc ss r h1 h2 hp => ⟨fun z => absurd z ng, fun _ => ⟨t_7 r wa, c_images r wa ⟨fun z => absurd z (nI_ge (b := 40) h40 (by omega)), fun _ => ⟨by omega, by omega, one r (fun ad' h' a r' => hp _ _ _ _ a r' (by omega) (by omega))⟩⟩⟩⟩, fun dE mc ms ad μ h K J cc ss r h1 h2 hp => ⟨fun z => absurd z ng, fun _ => ⟨t_7 r wa, c_images r wa ⟨fun z => absurd z ne40, fun _ => ⟨by omega, by omega, one r (fun ad' h' a r' => ⟨by omega, by omega, by rw [← a]; exact t_7 r' w2.1.1.1, ?_⟩)⟩⟩⟩⟩⟩
        rw [← a]
        exact two r' ⟨fun _ => hp _ _ _ _ a r' (by omega) (by omega), fun z => absurd rfl z⟩
    · have e40 : σ 1 3 2 = 40 := by omega
      refine ⟨σ, ST_refl w, _, wh, fun dE mc ms ad μ h K cc ss r h1 h2 hp => ⟨fun z => absurd z ng, fun _ => ⟨t_7 r wa, c_images r wa ⟨fun _ => hp _ _ _ _ rfl r (by omega) (by omega), fun z => absurd (by rw [e40]; decide) z⟩⟩⟩, fun dE mc ms ad μ h K J cc ss r h1 h2 hp => ⟨fun z => absurd z ng, fun _ => ⟨t_7 r wa, c_images r wa ⟨fun _ => hp _ _ _ _ rfl r (by omega) (by omega), fun z => absurd (by rw [e40]; rfl) z⟩⟩⟩⟩
  · have q : NL 0 (σ 1 2 2) := Or.inr (by rw [show σ 1 2 2 = 0 by omega]; decide)
    refine ⟨σ, ST_refl w, -1, fun dE ad μ h F r hf => ⟨t_7 r wa, c_whereIs1 r wa wv q ⟨rfl, hf⟩⟩, fun dE mc ms ad μ h K cc ss r h1 h2 hp => ⟨fun _ => hp _ _ _ _ rfl r (by omega) (by omega), fun z => absurd (by decide) z⟩, fun dE mc ms ad μ h K J cc ss r h1 h2 hp => ⟨fun _ => hp _ _ _ _ rfl r (by omega) (by omega), fun z => absurd (by decide) z⟩⟩
/-- the law's state -/
def GS (dE x y : Nat) (h : Hp) (P C T : Nat) : Prop := ∃ ad1 ad2 σ, BB dE ad1 σ ad2 σ h ∧ WE σ ∧ ad1 7 0 = x ∧ ad2 7 0 = y ∧ σ 1 5 2 ≤ P ∧ σ 9 5 0 = C ∧ σ 7 0 7 ≤ T
theorem goneN_mono {σ : St} {k : Nat} : ∀ n, k ≤ n → goneN k σ ≤ goneN n σ := by
  intro n
  induction n with
  | zero => intro h; rw [show k = 0 by omega]; exact Nat.le_refl _
  | succ n ih =>
    intro h
    by_cases e : k = n + 1
    · rw [e]; exact Nat.le_refl _
    · exact Nat.le_trans (ih (by omega)) (Nat.le_add_right _ _)
theorem taktN_cap1 {σ : St} (w : WE σ) (hb : σ 1 5 2 < 10000000) {n : Nat} (hn : n ≤ 20) : taktN n σ 9 5 0 ≤ 10 + 2 * (σ 1 5 2 + 400) ∧ σ 9 5 0 ≤ taktN n σ 9 5 0 := by
  have st := ST_takt w (by omega) hn
  have c := st.1.1.1.2.2.2.1.2.2
  have p := st.2.1
  exact ⟨by omega, st.2.2.1⟩
set_option maxHeartbeats 4000000 in
set_option maxRecDepth 100000 in
/-- the law's end, on both lines -/
theorem law_end {dE x y : Nat} {h : Hp} {P C T cc ss : Nat} (G : GS dE x y h P C T) (bP : P ≤ 40000) (hcc : cc ≤ 600000) (hss : ss ≤ 4500000) {mc ms : Nat} (emc : mc = 729213) (ems : ms = 6914059) :
(cc + 1 ≤ mc ∧
 (ss + 6 ≤ ms ∧
 wp_L_whereIs h x (0 : Int32) (fun x14 =>
 (∀ J141 : Int32 → Hp → Nat → Nat → Prop, (∀ (t141_0 : Int32) (h141_ : Hp) (c141 : Nat) (s141 : Nat), (∃ k16 n16 : Nat,
 (c141 + k16 ≤ mc ∧
 (s141 + n16 ≤ ms ∧
 (hT h141_ x = 7 ∧
 wp_X5_takt dE k16 n16 h141_ x (5 : Int32) (fun x16 h16 =>
 (c141 + k16 + 1 ≤ mc ∧
 (s141 + n16 + 6 ≤ ms ∧
 wp_L_whereIs h16 y (0 : Int32) (fun x19 =>
 (∀ J173 : Hp → Nat → Nat → Prop, (∀ (h173_ : Hp) (c173 : Nat) (s173 : Nat), (∀ J176 : Int32 → Int32 → Hp → Nat → Nat → Prop, (∀ (v176_4 : Int32) (v176_5 : Int32) (h176_ : Hp) (c176 : Nat) (s176 : Nat), (((5 : Int32) ≤ v176_5 →
 (∀ J220 : Int32 → Nat → Nat → Prop, (∀ (t220_0 : Int32) (c220 : Nat) (s220 : Nat), (t220_0 = (1 : Int32) ∧
 True) → J220 t220_0 c220 s220) →
 (∀ J219 : Nat → Nat → Prop, (∀ (c219 : Nat) (s219 : Nat), (J220 (0 : Int32) c219 s219) → J219 c219 s219) →
 ((t141_0 = 0 →
 J219 c176 s176) ∧ (¬ (t141_0 = 0) →
 ((v176_4 = 0 →
 (∃ k24 n24 : Nat,
 (c176 + k24 ≤ mc ∧
 (s176 + n24 ≤ ms ∧
 wp_L_areAlike k24 n24 h176_ x y (fun x24 =>
 ((x24 = 0 →
 J219 (c176 + k24) (s176 + n24)) ∧ (¬ (x24 = 0) →
 J220 (1 : Int32) (c176 + k24) (s176 + n24)))) (fun _ => False))))) ∧ (¬ (v176_4 = 0) →
 J219 c176 s176))))))) ∧ (¬ ((5 : Int32) ≤ v176_5) →
 (∃ k27 n27 : Nat,
 (c176 + k27 ≤ mc ∧
 (s176 + n27 ≤ ms ∧
 (hT h176_ y = 7 ∧
 wp_X5_takt dE k27 n27 h176_ y (1 : Int32) (fun x27 h27 =>
 J176 (v176_4 - x27) (v176_5 + (1 : Int32)) h27 (c176 + k27) (s176 + n27)) (fun _ _ => False))))))) → J176 v176_4 v176_5 h176_ c176 s176) →
 J176 x16 (0 : Int32) h173_ c173 s173) → J173 h173_ c173 s173) →
 ((x19 < 0 →
 J173 h16 (c141 + k16 + 1) (s141 + n16 + 6)) ∧ (¬ (x19 < 0) →
 (hT h16 y = 7 ∧
 wp_X5_images h16 y (fun x31 =>
 (((40 : Int32) ≤ x31 →
 J173 h16 (c141 + k16 + 1 + 0) (s141 + n16 + 6 + 0)) ∧ (¬ ((40 : Int32) ≤ x31) →
 (c141 + k16 + 1 + 0 + 4 ≤ mc ∧
 (s141 + n16 + 6 + 0 + 68 ≤ ms ∧
 wp_X5_build dE h16 y (0 : Int32) (fun x34 h34 =>
 J173 h34 (c141 + k16 + 1 + 0 + 4) (s141 + n16 + 6 + 0 + 68)) (fun _ _ => False)))))))))))))) (fun _ _ => False))))) → J141 t141_0 h141_ c141 s141) →
 (∀ J136 : Hp → Nat → Nat → Prop, (∀ (h136_ : Hp) (c136 : Nat) (s136 : Nat), (J141 (1 : Int32) h136_ c136 s136) → J136 h136_ c136 s136) →
 ((x14 < 0 →
 J136 h (cc + 1) (ss + 6)) ∧ (¬ (x14 < 0) →
 (hT h x = 7 ∧
 wp_X5_images h x (fun x37 =>
 ((x37 = (40 : Int32) →
 J136 h (cc + 1 + 0) (ss + 6 + 0)) ∧ (¬ (x37 = (40 : Int32)) →
 (cc + 1 + 0 + 4 ≤ mc ∧
 (ss + 6 + 0 + 68 ≤ ms ∧
 wp_X5_build dE h x (0 : Int32) (fun x40 h40 =>
 (cc + 1 + 0 + 4 + 4 ≤ mc ∧
 (ss + 6 + 0 + 68 + 68 ≤ ms ∧
 (hT h40 x = 7 ∧
 wp_X5_build dE h40 x (0 : Int32) (fun x42 h42 =>
 ((x40 = x42 →
 J136 h42 (cc + 1 + 0 + 4 + 4) (ss + 6 + 0 + 68 + 68)) ∧ (¬ (x40 = x42) →
 J141 (0 : Int32) h42 (cc + 1 + 0 + 4 + 4) (ss + 6 + 0 + 68 + 68)))) (fun _ _ => False))))) (fun _ _ => False)))))))))))))) := by
  obtain ⟨ad1, ad2, σ, bb, we, rfl, rfl, hP, rfl, hT⟩ := G
  obtain ⟨S, st, x, wh, tb, ta⟩ := pbr we
  have pS := st.2.1
  have wS := st.1
  have bS : S 1 5 2 < 10000000 := by omega
  refine ⟨by omega, by omega, wh _ _ _ _ _ bb.1 ?_⟩
  intro J141 h141 J136 h136
  refine ta dE mc ms ad1 _ h J136 (J141 0) cc ss bb.1 (by omega) (by omega) (fun ad1' h' c' s' a1 r1 b1 d1 => h136 _ _ _ ?_)
  refine h141 _ _ _ _ ?_
  have bb1 := bb.step r1
  have k5 := taktN_cap1 wS bS (n := 5) (by decide)
  rw [← a1]
  refine ⟨960, 9040 + 4 * (taktN 5 S 9 5 0 - S 9 5 0), by omega, by omega, t_7 r1 wS.1.1.1, ?_⟩
  refine p_takts (t := 5) bb1.1 wS (by omega) (by decide) (by decide) (Nat.le_refl _) (Nat.le_refl _) (fun ad1'' h'' a2 r2 => ?_)
  have bb2 := bb1.step r2
  refine ⟨by omega, by omega, wh _ _ _ _ _ bb2.2 ?_⟩
  intro J173 h173
  refine tb dE mc ms ad2 _ h'' J173 _ _ bb2.2 (by omega) (by omega) (fun ad2' h3 c3 s3 a3 r3 b3 d3 => h173 _ _ _ ?_)
  have bb3 := bb2.sym.step r3
  intro J176 h176
  have main : ∀ d k ad2' h3 cc3 ss3, k + d = 6 → k ≤ 5 → BB dE ad2' (taktN k S) ad1'' (taktN 5 S) h3 → ad2' 7 0 = ad2 7 0 → cc3 ≤ 602000 + 1000 * k → ss3 ≤ 5000000 + 9040 * k + 4 * taktN k S 9 5 0 → J176 (nI (goneN 5 S - goneN k S)) (nI k) h3 cc3 ss3 := by
    intro d
    induction d with
    | zero => intro k ad2' h3 cc3 ss3 e h; omega
    | succ d ih =>
      intro k ad2' h3 cc3 ss3 e hk b a7 b1 b2
      have kk := taktN_cap1 wS bS (n := k) (by omega)
      have sk := ST_takt wS (by omega) (t := k) (by omega)
      refine h176 _ _ _ _ _ ⟨fun q => ?_, fun q => ?_⟩
      · have k5' : k = 5 := by
          by_cases z : k < 5
          · exact absurd q (nI_ge (b := 5) z (by omega))
          · omega
        subst k5'
        intro J220 h220 J219 _
        refine ⟨fun z => absurd z (by decide), fun _ => ⟨fun _ => ⟨600, 3600, by omega, by omega, ?_⟩, fun z => absurd (by rw [Nat.sub_self]; rfl) z⟩⟩
        rw [← a7, ← a2]
        exact alike_ok b.2 b.1 sk.1 (Nat.le_refl _) (Nat.le_refl _) ⟨fun z => absurd z (by decide), fun _ => h220 _ _ _ ⟨rfl, trivial⟩⟩
      · have k5' : k < 5 := by
          by_cases z : k < 5
          · exact z
          · exact absurd (nI_le (a := 5) (b := k) (by omega) (by omega)) q
        have kk1 := taktN_cap1 wS bS (n := k + 1) (by omega)
        have e1 : taktN 1 (taktN k S) = taktN (k + 1) S := rfl
        have e2 : goneN (k + 1) S = goneN k S + goneN 1 (taktN k S) := by
          show _ = goneN k S + (0 + _)
          rw [Nat.zero_add]
          rfl
        have m5 := goneN_mono (σ := S) (k := k + 1) 5 (by omega)
        have g5 := goneN_le (σ := S) 5
        have mo : taktN k S 9 5 0 ≤ taktN (k + 1) S 9 5 0 := by
          have := (ST_takt sk.1 (by have := sk.2.1; omega) (t := 1) (by decide)).2.2.1
          rw [e1] at this
          exact this
        refine ⟨960, 9040 + 4 * (taktN (k + 1) S 9 5 0 - taktN k S 9 5 0), by omega, by omega, by rw [← a7]; exact t_7 b.1 sk.1.1.1.1, ?_⟩
        rw [← a7]
        refine p_takts (t := 1) b.1 sk.1 (by have := sk.2.1; omega) (by decide) (by decide) (Nat.le_refl _) (by rw [e1]; exact Nat.le_refl _) (fun ad3 h4 a4 r4 => ?_)
        rw [nI_subN (by omega), nI_1, show goneN 5 S - goneN k S - goneN 1 (taktN k S) = goneN 5 S - goneN (k + 1) S by omega]
        rw [e1] at r4
        exact ih (k + 1) _ _ _ _ (by omega) (by omega) (b.step r4) (a4.trans a7) (by omega) (by omega)
  have c0 : taktN 0 S 9 5 0 = S 9 5 0 := rfl
  exact main 6 0 ad2' h3 _ _ (by omega) (by omega) bb3 a3 (by omega) (by rw [c0]; omega)
set_option maxHeartbeats 4000000 in
set_option maxRecDepth 100000 in
/-- the law's loop -/
theorem law_loop {dE x y b L : Nat} {xs : Nat → Int32} (hL : L ≤ 260) {mc ms : Nat} (emc : mc = 729213) (ems : ms = 6914059) {J18 : Int32 → Hp → Nat → Nat → Prop} (h18 : ∀ (v18_3 : Int32) (h18_ : Hp) (c18 : Nat) (s18 : Nat), (((100 : Int32) ≤ v18_3 →
 (c18 + 1 ≤ mc ∧
 (s18 + 6 ≤ ms ∧
 wp_L_whereIs h18_ x (0 : Int32) (fun x14 =>
 (∀ J141 : Int32 → Hp → Nat → Nat → Prop, (∀ (t141_0 : Int32) (h141_ : Hp) (c141 : Nat) (s141 : Nat), (∃ k16 n16 : Nat,
 (c141 + k16 ≤ mc ∧
 (s141 + n16 ≤ ms ∧
 (hT h141_ x = 7 ∧
 wp_X5_takt dE k16 n16 h141_ x (5 : Int32) (fun x16 h16 =>
 (c141 + k16 + 1 ≤ mc ∧
 (s141 + n16 + 6 ≤ ms ∧
 wp_L_whereIs h16 y (0 : Int32) (fun x19 =>
 (∀ J173 : Hp → Nat → Nat → Prop, (∀ (h173_ : Hp) (c173 : Nat) (s173 : Nat), (∀ J176 : Int32 → Int32 → Hp → Nat → Nat → Prop, (∀ (v176_4 : Int32) (v176_5 : Int32) (h176_ : Hp) (c176 : Nat) (s176 : Nat), (((5 : Int32) ≤ v176_5 →
 (∀ J220 : Int32 → Nat → Nat → Prop, (∀ (t220_0 : Int32) (c220 : Nat) (s220 : Nat), (t220_0 = (1 : Int32) ∧
 True) → J220 t220_0 c220 s220) →
 (∀ J219 : Nat → Nat → Prop, (∀ (c219 : Nat) (s219 : Nat), (J220 (0 : Int32) c219 s219) → J219 c219 s219) →
 ((t141_0 = 0 →
 J219 c176 s176) ∧ (¬ (t141_0 = 0) →
 ((v176_4 = 0 →
 (∃ k24 n24 : Nat,
 (c176 + k24 ≤ mc ∧
 (s176 + n24 ≤ ms ∧
 wp_L_areAlike k24 n24 h176_ x y (fun x24 =>
 ((x24 = 0 →
 J219 (c176 + k24) (s176 + n24)) ∧ (¬ (x24 = 0) →
 J220 (1 : Int32) (c176 + k24) (s176 + n24)))) (fun _ => False))))) ∧ (¬ (v176_4 = 0) →
 J219 c176 s176))))))) ∧ (¬ ((5 : Int32) ≤ v176_5) →
 (∃ k27 n27 : Nat,
 (c176 + k27 ≤ mc ∧
 (s176 + n27 ≤ ms ∧
 (hT h176_ y = 7 ∧
 wp_X5_takt dE k27 n27 h176_ y (1 : Int32) (fun x27 h27 =>
 J176 (v176_4 - x27) (v176_5 + (1 : Int32)) h27 (c176 + k27) (s176 + n27)) (fun _ _ => False))))))) → J176 v176_4 v176_5 h176_ c176 s176) →
 J176 x16 (0 : Int32) h173_ c173 s173) → J173 h173_ c173 s173) →
 ((x19 < 0 →
 J173 h16 (c141 + k16 + 1) (s141 + n16 + 6)) ∧ (¬ (x19 < 0) →
 (hT h16 y = 7 ∧
 wp_X5_images h16 y (fun x31 =>
 (((40 : Int32) ≤ x31 →
 J173 h16 (c141 + k16 + 1 + 0) (s141 + n16 + 6 + 0)) ∧ (¬ ((40 : Int32) ≤ x31) →
 (c141 + k16 + 1 + 0 + 4 ≤ mc ∧
 (s141 + n16 + 6 + 0 + 68 ≤ ms ∧
 wp_X5_build dE h16 y (0 : Int32) (fun x34 h34 =>
 J173 h34 (c141 + k16 + 1 + 0 + 4) (s141 + n16 + 6 + 0 + 68)) (fun _ _ => False)))))))))))))) (fun _ _ => False))))) → J141 t141_0 h141_ c141 s141) →
 (∀ J136 : Hp → Nat → Nat → Prop, (∀ (h136_ : Hp) (c136 : Nat) (s136 : Nat), (J141 (1 : Int32) h136_ c136 s136) → J136 h136_ c136 s136) →
 ((x14 < 0 →
 J136 h18_ (c18 + 1) (s18 + 6)) ∧ (¬ (x14 < 0) →
 (hT h18_ x = 7 ∧
 wp_X5_images h18_ x (fun x37 =>
 ((x37 = (40 : Int32) →
 J136 h18_ (c18 + 1 + 0) (s18 + 6 + 0)) ∧ (¬ (x37 = (40 : Int32)) →
 (c18 + 1 + 0 + 4 ≤ mc ∧
 (s18 + 6 + 0 + 68 ≤ ms ∧
 wp_X5_build dE h18_ x (0 : Int32) (fun x40 h40 =>
 (c18 + 1 + 0 + 4 + 4 ≤ mc ∧
 (s18 + 6 + 0 + 68 + 68 ≤ ms ∧
 (hT h40 x = 7 ∧
 wp_X5_build dE h40 x (0 : Int32) (fun x42 h42 =>
 ((x40 = x42 →
 J136 h42 (c18 + 1 + 0 + 4 + 4) (s18 + 6 + 0 + 68 + 68)) ∧ (¬ (x40 = x42) →
 J141 (0 : Int32) h42 (c18 + 1 + 0 + 4 + 4) (s18 + 6 + 0 + 68 + 68)))) (fun _ _ => False))))) (fun _ _ => False))))))))))))))) ∧ (¬ ((100 : Int32) ≤ v18_3) →
 wp_L_cell (b, L, xs) h18_ b v18_3 (fun x46 =>
 (hT h18_ x = 7 ∧
 wp_X5_takts h18_ x (fun x47 =>
 (∃ k49 n49 : Nat,
 (c18 + 0 + 0 + k49 ≤ mc ∧
 (s18 + 0 + 0 + n49 ≤ ms ∧
 wp_L_act dE k49 n49 h18_ x x46 (fun x49 h49 =>
 (∀ J80 : Hp → Nat → Nat → Prop, (∀ (h80_ : Hp) (c80 : Nat) (s80 : Nat), (False) → J80 h80_ c80 s80) →
 (∀ J63 : Hp → Nat → Nat → Prop, (∀ (h63_ : Hp) (c63 : Nat) (s63 : Nat), (∃ k51 n51 : Nat,
 (c63 + k51 ≤ mc ∧
 (s63 + n51 ≤ ms ∧
 wp_L_areAlike k51 n51 h63_ x y (fun x51 =>
 ((x51 = 0 →
 J80 h63_ (c63 + k51) (s63 + n51)) ∧ (¬ (x51 = 0) →
 (hT h63_ x = 7 ∧
 wp_X5_takts h63_ x (fun x54 =>
 ((x47 ≤ x54 →
 ((¬ (10 : Int32) = 0) ∧
 (∀ J100 : Nat → Nat → Prop, (∀ (c100 : Nat) (s100 : Nat), (J18 (v18_3 + (1 : Int32)) h63_ c100 s100) → J100 c100 s100) →
 (((v18_3 - v18_3 / (10 : Int32) * (10 : Int32)) = (9 : Int32) →
 (∃ k59 n59 : Nat,
 (c63 + k51 + 0 + k59 ≤ mc ∧
 (s63 + n51 + 0 + n59 ≤ ms ∧
 wp_L_isLineSo k59 n59 h63_ x (fun x59 =>
 ((x59 = 0 →
 False) ∧ (¬ (x59 = 0) →
 J100 (c63 + k51 + 0 + k59) (s63 + n51 + 0 + n59)))) (fun _ => False))))) ∧ (¬ ((v18_3 - v18_3 / (10 : Int32) * (10 : Int32)) = (9 : Int32)) →
 J100 (c63 + k51 + 0) (s63 + n51 + 0)))))) ∧ (¬ (x47 ≤ x54) →
 J80 h63_ (c63 + k51 + 0) (s63 + n51 + 0)))))))) (fun _ => False)))) → J63 h63_ c63 s63) →
 ((x49 = (-99999 : Int32) →
 J63 h49 (c18 + 0 + 0 + k49) (s18 + 0 + 0 + n49)) ∧ (¬ (x49 = (-99999 : Int32)) →
 (∃ k63 n63 : Nat,
 (c18 + 0 + 0 + k49 + k63 ≤ mc ∧
 (s18 + 0 + 0 + n49 + n63 ≤ ms ∧
 wp_L_act dE k63 n63 h49 y x46 (fun x63 h63 =>
 ((x63 = x49 →
 J63 h63 (c18 + 0 + 0 + k49 + k63) (s18 + 0 + 0 + n49 + n63)) ∧ (¬ (x63 = x49) →
 J80 h63 (c18 + 0 + 0 + k49 + k63) (s18 + 0 + 0 + n49 + n63)))) (fun _ _ => False))))))))) (fun _ _ => False))))))))) → J18 v18_3 h18_ c18 s18) :
    ∀ d j h Ca cc ss, j + d = 101 → j ≤ 100 → GS dE x y h (400 * j) Ca (20 * j) → cc ≤ 100 + 4700 * j → ss ≤ 300 + 35500 * j + 8 * Ca → J18 (nI j) h cc ss := by
  intro d
  induction d with
  | zero => intro j h Ca cc ss e h; omega
  | succ d ih =>
    intro j h Ca cc ss e hj G b1 b2
    have cb : Ca ≤ 10 + 2 * (400 * j) := by
      obtain ⟨_, _, σ, _, we, _, _, hP, hC, _⟩ := G
      have := we.1.1.2.2.2.1.2.2
      omega
    refine h18 _ _ _ _ ⟨fun q => ?_, fun q => ?_⟩
    · exact law_end G (by omega) (by omega) (by omega) emc ems
    · have j100 : j < 100 := by
        by_cases z : j < 100
        · exact z
        · exact absurd (nI_le (a := 100) (b := j) (by omega) (by omega)) q
      unfold wp_L_cell
      refine ⟨rfl, fun K hK => ?_⟩
      have body : ∀ v, K v := by
        intro v
        refine hK _ ?_
        obtain ⟨ad1, ad2, σ, bb, we, e7, e8, hP, eC, hT⟩ := G
        have wa := we.1.1.1
        obtain ⟨r, S, st, hr, g⟩ := act_ok we (by omega) v
        obtain ⟨wS, s1, s2, s3, s4⟩ := st
        have cS := wS.1.1.2.2.2.1.2.2
        rw [← e7, ← e8]
        refine ⟨t_7 bb.1 wa, c_takts bb.1 wa ⟨1001, 9106 + 4 * (S 9 5 0 - σ 9 5 0), by omega, by omega, g dE ad1 _ h _ _ _ _ bb.1 (Nat.le_refl _) (Nat.le_refl _) (fun ad1' h' a1 r1 => ?_)⟩⟩
        have bb1 := bb.step r1
        intro J80 _ J63 h63
        have fin : ∀ ad2' h' cc' ss', BB dE ad1' S ad2' S h' → ad2' 7 0 = ad2 7 0 → cc' ≤ cc + 2002 → ss' ≤ ss + 18212 + 8 * (S 9 5 0 - σ 9 5 0) → J63 h' cc' ss' := by
          intro ad2' h' cc' ss' b a2 c1 c2
          refine h63 _ _ _ ⟨600, 3600, by omega, by omega, ?_⟩
          rw [← a1, ← a2]
          refine alike_ok b.1 b.2 wS (Nat.le_refl _) (Nat.le_refl _) ⟨fun z => absurd z (by decide), fun _ => ⟨t_7 b.1 wS.1.1.1, c_takts b.1 wS.1.1.1 ⟨fun _ => ⟨by decide, ?_⟩, fun z => absurd (nI_le s3 (by omega)) z⟩⟩⟩
          intro J100 h100
          have nx : ∀ cc'' ss'', cc'' ≤ cc + 4602 → ss'' ≤ ss + 35312 + 8 * (S 9 5 0 - σ 9 5 0) → J100 cc'' ss'' := fun cc'' ss'' c1 c2 => h100 _ _ (by
            rw [nI_1]
            exact ih (j + 1) _ (S 9 5 0) _ _ (by omega) (by omega) ⟨ad1', ad2', S, b, wS, by rw [a1]; exact e7, by rw [a2]; exact e8, by omega, rfl, by omega⟩ (by omega) (by omega))
          exact ⟨fun _ => ⟨2000, 13500, by omega, by omega, line_ok b.1 wS (Nat.le_refl _) (Nat.le_refl _) ⟨fun z => absurd z (by decide), fun _ => nx _ _ (by omega) (by omega)⟩⟩, fun _ => nx _ _ (by omega) (by omega)⟩
        refine ⟨fun z => ?_, fun _ => ⟨1001, 9106 + 4 * (S 9 5 0 - σ 9 5 0), by omega, by omega, g dE ad2 _ h' _ _ _ _ bb1.2 (Nat.le_refl _) (Nat.le_refl _) (fun ad2' h'' a2 r2 => ⟨fun _ => fin ad2' h'' _ _ (bb1.sym.step r2).sym a2 (by omega) (by omega), fun z => absurd rfl z⟩)⟩⟩
        have eS : S = σ := hr.resolve_right (fun q => q z)
        refine fin ad2 h' _ _ ?_ rfl (by omega) (by omega)
        rw [← eS] at bb1
        exact bb1
      refine ⟨fun _ => body _, fun z => ⟨rfl, j, rfl, by omega, ?_, body _⟩⟩
      by_cases q3 : j < L
      · exact q3
      · exact absurd (nI_le (a := L) (b := j) (by omega) (by omega)) z
theorem law_ok {dE b L : Nat} {xs : Nat → Int32} (hL : L ≤ 260) : wp_law dE (b, L, xs) 729213 6914059 (hp0 dE) b := by
  unfold wp_law
  refine ⟨by omega, by omega, fun q2 z2 h3 e3 => ⟨17, 73, by omega, by omega, ?_⟩⟩
  rw [e3]
  refine new_line (ad := fun _ _ => dE) (μ := (fun _ => False, hp0 dE)) (RR_0 (if_pos rfl) rfl (fun a z => z.elim)) z2 (Nat.le_refl _) (Nat.le_refl _) (fun ad1 h5 a1 r1 => ?_)
  refine ⟨by omega, by omega, fun q8 z8 h9 e9 => ⟨17, 73, by omega, by omega, ?_⟩⟩
  rw [e9]
  refine new_line (RR_1 r1) z8 (Nat.le_refl _) (Nat.le_refl _) (fun ad2 h11 a2 r2 => ?_)
  intro J18 h18
  exact law_loop (x := q2) (y := q8) hL rfl rfl h18 101 0 h11 0 _ _ (by omega) (by omega) ⟨ad1, ad2, _, BB_new r1 r2, WE_ini, a1, a2, Nat.le_of_eq (ipx (by decide) (by decide) (by simp)), ipx (by decide) (by decide) (by simp), Nat.le_of_eq (ipx (by decide) (by decide) (by simp))⟩ (by omega) (by omega)
