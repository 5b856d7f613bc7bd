/-! the Model fits, tests, lets takts pass -/
theorem np_told {σ : St} {c k l a b d : Nat} (t : toldM a b d) : newPick σ c k l a b d = σ a b d := by
  unfold toldM at t
  by_cases a1 : a = 1
  · obtain ⟨b3, rfl⟩ : b ≤ 3 ∧ d = 2 := by omega
    rw [a1, np1, if_neg (by omega)]
  · exact npx _ _ _ _ _ _ _ ⟨a1, by omega, by omega, by omega⟩
theorem fitK_ge {σ : St} (v : WV σ) {c s : Nat} (h : 5 ≤ s) : ∀ k, fitK σ c s k = σ := by
  intro k
  induction k with
  | zero => rfl
  | succ k ih =>
    show (if (fitK σ c s k) 4 k 0 = s ∧ lack (fitK σ c s k) c k = true then fit1 (fitK σ c s k) c k else fitK σ c s k) = σ
    rw [ih, if_neg]
    rintro ⟨q, -⟩
    have := (v.1 k).1
    omega
section MF
variable {dE : Nat} {ad : Nat → Nat → Nat} {ρ μ : St} {h : Hp}
theorem a44 (r : RR dE ad ρ μ h) (w : WA ρ) {c k : Nat} (hc : c < 30) (hk : k < 10) : hI h (ad 44 0) (10 * c + k) = nI (μ 24 c k) := by rw [a_44 r w (by omega), d10 hk, m10 hk]
theorem i10 (c k : Nat) : (10 : Int32) * nI c + nI k = nI (10 * c + k) := by rw [l10, nI_mul, nI_add]
theorem nI0 {v : Nat} (hv : v < 2 ^ 31) (q : nI v = 0) : v = 0 := (nI_eq (b := 0) hv (by omega)).mp q
theorem nI0' {v : Nat} (hv : v = 0) : nI v = 0 := by rw [hv]; rfl
theorem q_fit (r : RR dE ad ρ μ h) (w : WA ρ) (m : WW μ) (hb : μ 1 5 2 < 30000000) {c k : Nat} (hc : c < μ 1 2 2) (hk : k < 10) {post : Hp → Prop} (hp : ∀ h', RR dE ad ρ (fit1 μ c k) h' → post h') : wp_X6_fit h (ad 8 0) (nI c) (nI k) post := by
  have v := m.1.2.1
  have c30 := v.2.2.2.2.1.2.1
  have hC : c < 30 := by omega
  have hat : 10 * c + k < 300 := by omega
  have l24 := v.2.2.2.2.2.2.2.2.1 c k
  have l40 := v.2.2.2.2.1.1
  have fx := FX_take m hc hk (by omega : μ 1 5 2 < 40000000)
  have t24 := take24 (σ := μ) (c := c) (k := k)
  unfold fit1 at hp
  unfold wp_X6_fit
  refine ⟨t_8 r w, _, r_8_14 r w, t_44 r w, 10 * c + k, i10 c k, by omega, by rw [n_44 r w]; exact hat, _, a44 r w hC hk, fun J hJ => ?_⟩
  have main : ∀ h', RR dE ad ρ (takeS μ c k) h' → J h' := by
    have wt := fx.1
    have cc : takeS μ c k 1 2 2 = μ 1 2 2 := FX_12 fx 2 (by decide)
    have pp := fx.2.2.2.2.1
    generalize takeS μ c k = τ at hp wt t24 cc pp
    intro h' r'
    have vt := wt.1.2.1
    have lt40 := vt.2.2.2.2.1.1
    have fp := FX_pickN wt (c := c) (k := k) (by omega) hk (by omega) (τ 1 1 2) 0 (by omega)
    have fp : FX τ (pickS τ c k) 1 := fp
    have s1 : pickS τ c k 1 1 2 = τ 1 1 2 := FX_12 fp 1 (by decide)
    have sl := fp.1.1.2.1.2.2.2.2.2.2.2.2.1 c k
    refine hJ _ (fun K hK => ?_)
    refine lpA (J := fun x v => K v x) (x := h') (fun x v hb => hK v x hb) (τ 1 1 2) (fun l x => (RR dE ad ρ τ x ∧ pickN τ c k l (τ 1 1 2 - l) = pickS τ c k) ∨ (RR dE ad ρ (pickS τ c k) x ∧ pickS τ c k 24 c k ≠ 0)) (Or.inl ⟨r', by rw [Nat.sub_zero]; rfl⟩) (fun l x hl e hst => ?_)
    rcases e with ⟨r1, e⟩ | ⟨r1, e⟩
    · refine ⟨t_8 r1 w, _, m_5 r1 w, fun M hM => ⟨fun q => ?_, fun q => ?_⟩⟩
      · have := (nI_leI (by omega) (by omega)).mp q
        have : τ 1 1 2 - l = 0 := by omega
        rw [this] at e
        have e : τ = pickS τ c k := e
        refine hM (hp x ?_)
        rw [← e]
        exact r1
      · have hl2 : l < τ 1 1 2 := by
          by_cases z : l < τ 1 1 2
          · exact z
          · exact absurd (nI_le (by omega) (by omega)) q
        have ed : τ 1 1 2 - l = (τ 1 1 2 - (l + 1)) + 1 := by omega
        rw [ed] at e
        have estep : pickN τ c k l (τ 1 1 2 - (l + 1) + 1) = if τ 5 l 1 = k ∧ τ 5 l 4 = 0 ∧ ¬ τ 5 l 3 = 0 then pickAt τ c k l else pickN τ c k (l + 1) (τ 1 1 2 - (l + 1)) := rfl
        have b1 := (vt.2.1 l).1
        have b3 := (vt.2.1 l).2.2.1
        have b4 := (vt.2.1 l).2.2.2
        have l40' : l < 40 := by omega
        refine ⟨_, r_8_14 r1 w, t_44 r1 w, 10 * c + k, i10 c k, by omega, by rw [n_44 r1 w]; exact hat, _, a44 r1 w hC hk, fun _ => ?_, fun y => absurd (nI0' t24) y⟩
        refine ⟨_, r_8_6 r1 w, t_36 r1 w, l, rfl, by omega, by rw [n_36 r1 w]; exact l40', _, a_36 r1 w l40', fun N hN => ?_⟩
        have hN2 : ∀ x2, ((RR dE ad ρ τ x2 ∧ pickN τ c k (l + 1) (τ 1 1 2 - (l + 1)) = pickS τ c k) ∨ (RR dE ad ρ (pickS τ c k) x2 ∧ pickS τ c k 24 c k ≠ 0)) → N x2 := fun x2 y => hN x2 (by rw [nI_1]; exact hst x2 hl2 y)
        have next : ¬ (τ 5 l 1 = k ∧ τ 5 l 4 = 0 ∧ ¬ τ 5 l 3 = 0) → N x := fun y => hN2 x (Or.inl ⟨r1, by rw [← e, estep, if_neg y]⟩)
        refine ⟨fun q1 => ?_, fun q1 => next (fun y => q1 (by rw [y.1]))⟩
        have q1 : τ 5 l 1 = k := (nI_eq (by omega) (by omega)).mp q1
        refine ⟨_, r_8_9 r1 w, t_39 r1 w, l, rfl, by omega, by rw [n_39 r1 w]; exact l40', _, a_39 r1 w l40', fun q4 => ?_, fun q4 => next (fun y => q4 (nI0' y.2.1))⟩
        have q4 : τ 5 l 4 = 0 := nI0 (by omega) q4
        refine ⟨_, r_8_8 r1 w, t_38 r1 w, l, rfl, by omega, by rw [n_38 r1 w]; exact l40', _, a_38 r1 w l40', fun q3 => next (fun y => y.2.2 ?_), fun q3 => ?_⟩
        · have := (nI_leI (b := 0) (by omega) (by omega)).mp q3
          omega
        · have q3 : ¬ τ 5 l 3 = 0 := fun y => q3 (by rw [y]; exact (by decide))
          have eS : pickS τ c k = pickAt τ c k l := by rw [← e, estep, if_pos ⟨q1, q4, q3⟩]
          refine ⟨_, r_8_8 r1 w, t_38 r1 w, l, rfl, by omega, by rw [n_38 r1 w]; exact l40', _, a_38 r1 w l40', l, rfl, by omega, by rw [n_38 r1 w]; exact l40', fun h34 e34 => ?_⟩
          have en : nI (τ 5 l 3) - 1 = nI (τ 5 l 3 - 1) := nI_subN (b := 1) (by omega)
          rw [en] at e34
          have r2 : RR dE ad ρ (up τ 5 l 3 (τ 5 l 3 - 1)) h34 := by rw [e34]; exact sa_38 r1 w
          refine ⟨_, r_8_14 r2 w, t_44 r2 w, 10 * c + k, i10 c k, by omega, by rw [n_44 r2 w]; exact hat, fun h39 e39 => ?_⟩
          have r3 : RR dE ad ρ (up (up τ 5 l 3 (τ 5 l 3 - 1)) 24 c k (l + 1)) h39 := by rw [e39, nI_1]; exact sa_44 r2 w hk
          refine ⟨_, r_8_16 r3 w, t_46 r3 w, c, rfl, by omega, by rw [n_46 r3 w]; exact hC, fun h44 e44 => ?_⟩
          have r4 : RR dE ad ρ (up (up (up τ 5 l 3 (τ 5 l 3 - 1)) 24 c k (l + 1)) 2 c 6 0) h44 := by rw [e44]; exact sa_46 r3 w
          refine hN2 h44 (Or.inr ⟨?_, ?_⟩)
          · rw [eS]
            unfold pickAt
            exact r4.eqM (fun a b d t => np_told t)
          · rw [eS]
            unfold pickAt
            rw [npx _ _ _ _ _ _ _ (by decide)]
            simp [up]
    · refine ⟨t_8 r1 w, _, m_5 r1 w, fun M hM => ⟨fun q => hM (hp x r1), fun q => ?_⟩⟩
      exact ⟨_, r_8_14 r1 w, t_44 r1 w, 10 * c + k, i10 c k, by omega, by rw [n_44 r1 w]; exact hat, _, a44 r1 w hC hk, fun y => absurd (nI0 (by omega) y) e, fun _ => hM (hp x r1)⟩
  refine ⟨fun q => main h ?_, fun q => ?_⟩
  · have z : μ 24 c k = 0 := by have := (nI_leI (b := 0) (by omega) (by omega)).mp q; omega
    rw [takeS, if_pos z]
    exact r
  · have z : ¬ μ 24 c k = 0 := fun y => q (by rw [y]; exact (by decide))
    refine ⟨_, r_8_14 r w, t_44 r w, 10 * c + k, i10 c k, by omega, by rw [n_44 r w]; exact hat, fun h49 e49 => ?_⟩
    have r1 : RR dE ad ρ (up μ 24 c k 0) h49 := by rw [e49]; exact sa_44 r w hk
    have q1 : up μ 24 c k 0 7 0 8 = μ 7 0 8 := up_ne (fun z => by cases z.1)
    refine ⟨_, m_28 r1 w, fun h52 e52 => ?_⟩
    have r2 : RR dE ad ρ (up (up μ 24 c k 0) 7 0 8 (μ 7 0 8 + 1)) h52 := by rw [e52, q1, nI_1]; exact sn_28 r1 w
    refine ⟨_, r_8_16 r2 w, t_46 r2 w, c, rfl, by omega, by rw [n_46 r2 w]; exact hC, fun h57 e57 => main h57 ?_⟩
    have r3 : RR dE ad ρ (up (up (up μ 24 c k 0) 7 0 8 (μ 7 0 8 + 1)) 2 c 6 0) h57 := by rw [e57]; exact sa_46 r2 w
    rw [takeS, if_neg z]
    refine r3.eqM (fun a b d t => ?_)
    rw [np_told t]
    simp only [up]
    repeat' split
    all_goals omega
theorem q_work (r : RR dE ad ρ μ h) (w : WA ρ) (m : WW μ) (hb : μ 1 5 2 < 20000000) {s : Nat} (hs : s < 8) (z : μ 25 0 s ≠ 0) {post : Hp → Prop} (hp : ∀ h', RR dE ad ρ (workS μ s) h' → post h') : wp_X6_work h (ad 8 0) (nI s) post := by
  have v := m.1.2.1
  obtain ⟨hc, e3, e4⟩ := car_lt m z
  have c30 := v.2.2.2.2.1.2.1
  have ec : nI (μ 25 0 s) - 1 = nI (μ 25 0 s - 1) := nI_subN (b := 1) (by omega)
  have hC : μ 25 0 s - 1 < 30 := by omega
  unfold workS at hp
  rw [if_neg z] at hp
  unfold wp_X6_work
  refine ⟨t_8 r w, _, r_8_19 r w, t_49 r w, s, rfl, by omega, by rw [n_49 r w]; exact hs, _, a_49 r w hs, ?_⟩
  rw [ec]
  generalize μ 25 0 s - 1 = C at *
  intro J hJ
  refine lpA (J := fun x v => J v x) (x := h) (fun x v hb => hJ v x hb) 10 (fun k x => RR dE ad ρ (fitK μ C s k) x) r (fun k x hk e hst => ?_)
  by_cases hk2 : k < 10
  · refine ⟨fun q => absurd q (nI_ge (b := 10) hk2 (by omega)), fun _ => ?_⟩
    have fx := FX_fitK m (s := s) hc hb k hk
    have kle := kc_le (σ := μ) (s := s) k
    have stp : fitK μ C s (k + 1) = if (fitK μ C s k) 4 k 0 = s ∧ lack (fitK μ C s k) C k = true then fit1 (fitK μ C s k) C k else fitK μ C s k := rfl
    have nx : ∀ x2, RR dE ad ρ (fitK μ C s (k + 1)) x2 → J (nI k + 1) x2 := fun x2 y => by rw [nI_1]; exact hst x2 hk2 y
    rw [stp] at nx
    have wt := fx.1
    have cc := FX_12 fx 2 (by decide)
    have pp := fx.2.2.2.2.1
    generalize fitK μ C s k = τ at e nx wt cc pp
    have vt := wt.1.2.1
    have b4 := (vt.1 k).1
    refine ⟨t_8 e w, _, r_8_1 e w, t_31 e w, k, rfl, by omega, by rw [n_31 e w]; exact hk2, _, a_31 e w hk2, fun K hK => ⟨fun y => ?_, fun y => ?_⟩⟩
    · have y : τ 4 k 0 = s := (nI_eq (by omega) (by omega)).mp y
      refine q_lack e w vt hC hk2 (fun b hb2 => ?_)
      cases b with
      | false => exact ⟨fun _ => hK x (nx x (by rw [if_neg (fun q => by rw [← hb2] at q; cases q.2)]; exact e)), fun q => absurd rfl q⟩
      | true => exact ⟨fun q => absurd q n10, fun _ => q_fit e w wt (by omega) (by rw [cc]; exact hc) hk2 (fun h' r' => hK h' (nx h' (by rw [if_pos ⟨y, hb2.symm⟩]; exact r')))⟩
    · exact hK x (nx x (by rw [if_neg (fun q => y (by rw [q.1]))]; exact e))
  · have : k = 10 := by omega
    subst this
    refine ⟨fun _ K hK => ?_, fun q => absurd (nI_le (Nat.le_refl 10) (by omega)) q⟩
    refine ⟨fun s6 => ?_, fun s6 => hK x (hp x ?_)⟩
    · have s6 : s = 6 := (nI_eq (b := 6) (by omega) (by omega)).mp s6
      rw [fitK_ge v (by omega)] at e
      rw [if_neg (by omega)] at hp
      have b6 := (v.2.2.1 C).2.1
      have b8 := (v.2.2.1 C).2.2.2.1
      refine ⟨t_8 e w, _, r_8_16 e w, t_46 e w, C, rfl, by omega, by rw [n_46 e w]; exact hC, _, a_46 e w hC, fun q6 => ?_, fun q6 => hK x (hp x ?_)⟩
      · have q6 : μ 2 C 6 = 0 := nI0 (by omega) q6
        rw [if_pos ⟨s6, q6⟩] at hp
        refine ⟨_, r_8_16 e w, _, r_8_18 e w, t_48 e w, C, rfl, by omega, by rw [n_48 e w]; exact hC, _, a_48 e w hC, fun L hL => ?_⟩
        have main : ∀ (b : Bool) h', b = passS μ C → RR dE ad ρ μ h' → L (nI b.toNat) h' := by
          intro b h' eb r'
          refine hL _ _ ⟨t_46 r' w, C, rfl, by omega, by rw [n_46 r' w]; exact hC, b01_b b, fun h22 e22 => ?_⟩
          have r1 : RR dE ad ρ (up μ 2 C 6 b.toNat) h22 := by rw [e22]; exact sa_46 r' w
          refine ⟨t_8 r1 w, _, r_8_17 r1 w, _, r_8_16 r1 w, t_46 r1 w, C, rfl, by omega, by rw [n_46 r1 w]; exact hC, _, a_46 r1 w hC, fun M hM => ?_⟩
          rw [up_eq]
          have mf : M (nI (!b).toNat) := by
            refine hM _ ⟨t_47 r1 w, C, rfl, by omega, by rw [n_47 r1 w]; exact hC, b01_b _, fun h32 e32 => ?_⟩
            have r2 : RR dE ad ρ (up (up μ 2 C 6 b.toNat) 2 C 7 (!b).toNat) h32 := by rw [e32]; exact sa_47 r1 w
            have q9 : up (up μ 2 C 6 b.toNat) 2 C 7 (!b).toNat 7 0 9 = μ 7 0 9 := by simp [up]
            refine ⟨_, m_29 r2 w, _, r_8_17 r2 w, t_47 r2 w, C, rfl, by omega, by rw [n_47 r2 w]; exact hC, _, a_47 r2 w hC, fun N hN => ?_⟩
            rw [up_eq]
            have fin : N (nI (!b).toNat) := by
              refine hN _ (fun h39 e39 => ?_)
              rw [q9, nI_add] at e39
              have r3 : RR dE ad ρ (up (up (up μ 2 C 6 b.toNat) 2 C 7 (!b).toNat) 7 0 9 (μ 7 0 9 + (!b).toNat)) h39 := by rw [e39]; exact sn_29 r2 w
              refine ⟨_, r_8_18 r3 w, t_48 r3 w, C, rfl, by omega, by rw [n_48 r3 w]; exact hC, fun h44 e44 => hK _ (hp h44 ?_)⟩
              have r4 : RR dE ad ρ (up (up (up (up μ 2 C 6 b.toNat) 2 C 7 (!b).toNat) 7 0 9 (μ 7 0 9 + (!b).toNat)) 2 C 8 0) h44 := by rw [e44]; exact sa_48 r3 w
              unfold testS
              cases b with
              | true =>
                rw [if_pos eb.symm]
                have e9 : up (up (up μ 2 C 6 true.toNat) 2 C 7 (!true).toNat) 7 0 9 (μ 7 0 9 + (!true).toNat) = up (up μ 2 C 6 1) 2 C 7 0 := by
                  have : up (up (up μ 2 C 6 1) 2 C 7 0) 7 0 9 (up (up μ 2 C 6 1) 2 C 7 0 7 0 9) = up (up μ 2 C 6 1) 2 C 7 0 := up_same
                  have q : up (up μ 2 C 6 1) 2 C 7 0 7 0 9 = μ 7 0 9 := by simp [up]
                  rw [q] at this
                  exact this
                rw [e9] at r4
                exact r4
              | false =>
                rw [if_neg (by rw [← eb]; decide)]
                refine r4.eqM (fun a b d t => ?_)
                show up (up (up (up μ 2 C 6 0) 2 C 7 1) 2 C 8 0) 7 0 9 (μ 7 0 9 + 1) a b d = up (up (up (up μ 2 C 6 0) 2 C 7 1) 7 0 9 (μ 7 0 9 + 1)) 2 C 8 0 a b d
                simp only [up]
                repeat' split
                all_goals omega
            cases b with
            | true => exact ⟨fun _ => fin, fun q => absurd rfl q⟩
            | false => exact ⟨fun q => absurd q n10, fun _ => fin⟩
          cases b with
          | true => exact ⟨fun q => absurd q n10, fun _ => mf⟩
          | false => exact ⟨fun _ => mf, fun q => absurd rfl q⟩
        intro N hN
        refine ⟨fun q8 => ?_, fun q8 => hN x (main false x (by simp [passS]; intro _ y; exact absurd (nI0' y) q8) e)⟩
        have q8 : μ 2 C 8 = 0 := nI0 (by omega) q8
        refine q_fits e w v m.1.2.2.1 hC (fun b h' hb2 r' => ?_)
        cases b with
        | false => exact ⟨fun _ => hN h' (main false h' (by simp [passS, ← hb2]) r'), fun q => absurd rfl q⟩
        | true => exact ⟨fun q => absurd q n10, fun _ => main true h' (by simp [passS, ← hb2, q8]) r'⟩
      · rw [if_neg (fun y => q6 (nI0' y.2))]
        exact e
    · by_cases s5 : s < 5
      · rw [if_pos s5]
        exact e
      · rw [if_neg s5, if_neg (fun y => s6 (by rw [y.1]; rfl))]
        rw [fitK_ge v (by omega)] at e
        exact e
theorem q_takt1 (r : RR dE ad ρ μ h) (w : WA ρ) (m : WW μ) (hb : μ 1 5 2 < 18000000) {t : Nat} (t1 : 1 ≤ t) (t20 : t ≤ 20) {post : Int32 → Hp → Prop} (hp : ∀ h', RR dE ad ρ (taktN t (up μ 98 0 0 0)) h' → post (nI (goneN t (up μ 98 0 0 0))) h') : wp_X6_takt h (ad 8 0) (nI t) post := by
  unfold wp_X6_takt
  refine q_in1 (a := 1) (b := 20) t1 t20 (by omega) (fun J hJ => ⟨fun q => absurd q n10, fun _ => hJ _ ⟨t_8 r w, q_well0 r w (fun h2 r2 => ⟨fun q => absurd q n10, fun _ K hK => ?_⟩)⟩⟩)
  have m' : WW (up μ 98 0 0 0) := WW_up m (by simp [okU]) (by decide)
  have hb' : up μ 98 0 0 0 1 5 2 < 18000000 := by rw [up_ne (fun z => by cases z.1)]; exact hb
  generalize up μ 98 0 0 0 = σ at *
  refine lpA (J := fun (x : Int32 × Hp) v => K x.1 v x.2) (x := (nI 0, h2)) (fun x v hb => hK x.1 v x.2 hb) t (fun k x => x.1 = nI (goneN k σ) ∧ RR dE ad ρ (taktN k σ) x.2) ⟨rfl, r2⟩ (fun k x hk e hst => ?_)
  obtain ⟨g0, h3⟩ := x
  obtain ⟨e0, r3⟩ := e
  have e0 : g0 = nI (goneN k σ) := e0
  subst e0
  have r3 : RR dE ad ρ (taktN k σ) h3 := r3
  by_cases hk2 : k < t
  · refine ⟨fun q => absurd q (nI_ge hk2 (by omega)), fun _ L hL => ?_⟩
    have tx := TX_taktN m' hb' k (by omega)
    have stp : taktN (k + 1) σ = taktS (taktN k σ) := rfl
    have stg : goneN (k + 1) σ = goneN k σ + (leaveB (backN 8 (taktN k σ))).toNat := rfl
    have nx : ∀ b h4, b = leaveB (backN 8 (taktN k σ)) → RR dE ad ρ (taktS (taktN k σ)) h4 → K (nI (goneN k σ) + nI b.toNat) (nI k + 1) h4 := by
      intro b h4 eb r4
      have := hst (nI (goneN (k + 1) σ), h4) hk2 ⟨rfl, r4⟩
      rw [stg, ← nI_add, ← eb, ← nI_1 k] at this
      exact this
    have wt := tx.1
    have pp := tx.2.2.2.1
    generalize taktN k σ = τ at r3 nx wt pp
    have e7 : (7 : Int32) = nI (8 + NN) := by decide
    rw [e7]
    refine lpD (J := fun x v => L v x) (x := h3) (fun x v hb => hL v x hb) 8 (fun n x => ∃ τ', RR dE ad ρ τ' x ∧ WW τ' ∧ backN n τ' = backN 8 τ) ⟨τ, r3, wt, rfl⟩ (fun n x hn e hst2 => ?_)
    obtain ⟨τ', r4, wt', eN⟩ := e
    cases n with
    | zero =>
      rw [nI_d0]
      refine ⟨fun _ => ?_, fun q => absurd (by decide) q⟩
      have eN : τ' = backN 8 τ := eN
      rw [eN] at r4 wt'
      have i2 := HX_leave wt'
      have i3 := HX_moveN i2.1 (n := 7) (Nat.le_refl _)
      have inn := HX_inn wt
      have inn5 := inn.2.1 5 (by decide)
      refine ⟨t_8 r4 w, q_moveOn r4 w wt' (fun h7 r7 => ⟨t_8 r7 w, q_comeIn r7 w i3.1 (fun h9 r9 N hN => ?_)⟩)⟩
      have r9 : RR dE ad ρ (innS τ) h9 := r9
      have nx2 : ∀ h4, RR dE ad ρ (taktS τ) h4 → K (nI (goneN k σ) + nI (leaveB (backN 8 τ)).toNat) (nI k + 1) h4 := fun h4 r5 => nx _ h4 rfl r5
      unfold taktS at nx2
      generalize innS τ = κ at r9 inn inn5 nx2
      have wi := inn.1
      have bi : κ 1 5 2 < 19000000 := by omega
      refine lpA (J := fun x v => N v x) (x := h9) (fun x v hb => hN v x hb) 8 (fun s x => RR dE ad ρ (workN κ s) x) r9 (fun s x hs e hst3 => ?_)
      by_cases hs2 : s < 8
      · refine ⟨fun q => absurd q (nI_ge (b := 8) hs2 (by omega)), fun _ => ?_⟩
        have gx := GX_workN wi bi s
        have k10 := ksum_le (σ := κ) (s := s) 10
        have nx3 : ∀ h4, RR dE ad ρ (workS (workN κ s) s) h4 → N (nI s + 1) h4 := fun h4 r5 => by rw [nI_1]; exact hst3 h4 hs2 r5
        have wg := gx.1
        have pg := gx.2.2.2.2.2.2.1
        generalize workN κ s = ω at e nx3 wg pg
        have vg := wg.1.2.1
        have b25 := vg.2.2.2.2.2.2.2.2.2.2 s
        have bc := vg.2.2.2.2.1.2.1
        refine ⟨t_8 e w, _, r_8_19 e w, t_49 e w, s, rfl, by omega, by rw [n_49 e w]; exact hs2, _, a_49 e w hs2, fun Q hQ => ⟨fun y => ?_, fun y => ?_⟩⟩
        · have z : ω 25 0 s = 0 := by have := (nI_leI (b := 0) (by omega) (by omega)).mp y; omega
          exact hQ x (nx3 x (by rw [workS, if_pos z]; exact e))
        · have z : ω 25 0 s ≠ 0 := fun q => y (by rw [q]; exact (by decide))
          exact q_work e w wg (by omega) hs2 z (fun h4 r5 => hQ h4 (nx3 h4 r5))
      · have : s = 8 := by omega
        subst this
        refine ⟨fun _ => ⟨t_8 e w, _, m_27 e w, fun h14 e14 => nx2 h14 ?_⟩, fun q => absurd (nI_le (Nat.le_refl 8) (by omega)) q⟩
        rw [e14, nI_1]
        exact sn_27 e w
    | succ j =>
      rw [nI_dn]
      have hj : j < 8 := by omega
      have vt' := wt'.1.2.1
      have b25 := vt'.2.2.2.2.2.2.2.2.2.2 j
      have bc := vt'.2.2.2.2.1.2.1
      have fin : ∀ h4, RR dE ad ρ (backS τ' j) h4 → L (nI (j + NN)) h4 := fun h4 r5 => hst2 h4 j rfl ⟨backS τ' j, r5, (HX_backS wt' hj).1, by rw [← eN]; rfl⟩
      have ek : nI j + -1 = nI (j + NN) := by rw [lm1, nI_add]
      refine ⟨fun q => absurd q (nI_pos (by omega)), fun _ => ⟨t_8 r4 w, _, r_8_19 r4 w, t_49 r4 w, j, rfl, by omega, by rw [n_49 r4 w]; exact hj, _, a_49 r4 w hj, fun Q hQ => ⟨fun y => ?_, fun y => ?_⟩⟩⟩
      · have z : τ' 25 0 j = 0 := by have := (nI_leI (b := 0) (by omega) (by omega)).mp y; omega
        exact hQ x (by rw [ek]; exact fin x (by rw [backS, if_pos z]; exact r4))
      · have z : τ' 25 0 j ≠ 0 := fun q => y (by rw [q]; exact (by decide))
        exact q_sendBack r4 w wt' hj z (fun h4 r5 => hQ h4 (by rw [ek]; exact fin h4 r5))
  · have : k = t := by omega
    subst this
    exact ⟨fun _ => hp h3 r3, fun q => absurd (nI_le (Nat.le_refl _) (by omega)) q⟩
theorem q_takt0 (r : RR dE ad ρ μ h) (w : WA ρ) {x : Int32} (hx : NR x 1 20) {post : Int32 → Hp → Prop} (hp : ∀ h', RR dE ad ρ (up μ 98 0 0 1) h' → post (nI 0) h') : wp_X6_takt h (ad 8 0) x post := by
  unfold wp_X6_takt
  exact q_in0 (a := 1) (b := 20) hx (fun J hJ => ⟨fun _ => hJ _ ⟨t_8 r w, q_wellN (k := 1) r w (by decide) (by decide) (fun h2 r2 => ⟨fun _ => hp h2 r2, fun q => absurd rfl q⟩)⟩, fun q => absurd rfl q⟩)
end MF
