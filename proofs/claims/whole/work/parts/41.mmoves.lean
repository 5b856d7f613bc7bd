/-! the Model sends back, moves on, comes in -/
theorem ta_eq (σ : St) (c s a b d : Nat) (t : toldM a b d) : toLane σ c s a b d = up (up (up (up σ 2 c 3 2) 2 c 9 s) 27 0 (σ 1 4 2) c) 10 0 1 (σ 1 4 2 + 1) a b d := by
  unfold toldM at t
  rcases t with rfl | ⟨rfl, t1⟩ | ⟨rfl, t1, t2⟩ | rfl | rfl | rfl | rfl | rfl | rfl | rfl | rfl | ⟨rfl, t1, t2⟩
  · simp [toLane, addS, up]
  · simp [toLane, addS, up]
  · simp [toLane, addS, up, t2]
  · simp [toLane, addS, up]
  · simp [toLane, addS, up]
  · simp [toLane, addS, up]
  · simp [toLane, addS, up]
  · simp [toLane, addS, up]
  · simp [toLane, addS, up]
  · simp [toLane, addS, up]
  · simp [toLane, addS, up]
  · have b4 : b ≠ 4 := by omega
    simp [toLane, addS, up, b4]
def mLane (σ : St) (c s to : Nat) : St := up (up (up (up (up σ 25 0 s 0) 2 c 3 2) 2 c 9 to) 27 0 (σ 10 0 1) c) 10 0 1 (σ 10 0 1 + 1)
theorem nI_nNN {a : Nat} (ha : a < 2 ^ 31) : ¬ nI a = (-1 : Int32) := fun q => by rw [lm1] at q; exact (nI_eqNN ha).mp q
theorem nI_m1 {v : Nat} (hv : v ≠ 0) (hb : v < 2 ^ 31) : ¬ nI v - 1 = (-1 : Int32) := by
  have : nI v - 1 = nI (v - 1) := nI_subN (b := 1) (by omega)
  rw [this]
  exact nI_nNN (by omega)
section MT
variable {dE : Nat} {ad : Nat → Nat → Nat} {ρ μ : St} {h : Hp}
theorem q_comeTo (r : RR dE ad ρ μ h) (w : WA ρ) {c s : Nat} (hc : c < 30) (hs : s < 8) {post : Hp → Prop} (hp : ∀ h', RR dE ad ρ (toLine μ c s) h' → post h') : wp_X6_comeTo h (ad 8 0) (nI c) (nI s) post := by
  unfold wp_X6_comeTo
  refine ⟨t_8 r w, _, r_8_19 r w, t_49 r w, s, rfl, by omega, by rw [n_49 r w]; exact hs, fun h5 e5 => ?_⟩
  have r1 : RR dE ad ρ (up μ 25 0 s (c + 1)) h5 := by rw [e5, nI_1]; exact sa_49 r w
  refine ⟨_, r_8_12 r1 w, t_42 r1 w, c, rfl, by omega, by rw [n_42 r1 w]; exact hc, fun h10 e10 => ?_⟩
  have r2 : RR dE ad ρ (up (up μ 25 0 s (c + 1)) 2 c 3 1) h10 := by rw [e10]; exact sa_42 r1 w
  refine ⟨_, r_8_13 r2 w, t_43 r2 w, c, rfl, by omega, by rw [n_43 r2 w]; exact hc, fun h15 e15 => hp h15 ?_⟩
  have r3 : RR dE ad ρ (up (up (up μ 25 0 s (c + 1)) 2 c 3 1) 2 c 9 s) h15 := by rw [e15]; exact sa_43 r2 w
  refine r3.eqM (fun a b d t => ?_)
  simp only [toLine, up]
  unfold toldM at t
  repeat' split
  all_goals omega
theorem q_sendBack (r : RR dE ad ρ μ h) (w : WA ρ) (m : WW μ) {s : Nat} (hs : s < 8) (z : μ 25 0 s ≠ 0) {post : Hp → Prop} (hp : ∀ h', RR dE ad ρ (backS μ s) h' → post h') : wp_X6_sendBack h (ad 8 0) (nI s) post := by
  have v := m.1.2.1
  obtain ⟨hc, e3, e4⟩ := car_lt m z
  have n30 := wait_lt m.2.1 hc (by omega)
  have c30 := v.2.2.2.2.1.2.1
  have eW := m.2.1.2.2.2.1
  have l8 := low_le v (c := μ 25 0 s - 1) 10
  have ec : nI (μ 25 0 s) - 1 = nI (μ 25 0 s - 1) := nI_subN (b := 1) (by omega)
  have b6 := (v.2.2.1 (μ 25 0 s - 1)).2.1
  have b7 := (v.2.2.1 (μ 25 0 s - 1)).2.2.1
  have hC : μ 25 0 s - 1 < 30 := by omega
  unfold wp_X6_sendBack
  refine ⟨t_8 r w, _, r_8_19 r w, t_49 r w, s, rfl, by omega, by rw [n_49 r w]; exact hs, _, a_49 r w hs, ?_⟩
  rw [ec]
  refine q_back r w v hC hs (fun J hJ => ?_)
  unfold backS at hp
  rw [if_neg z] at hp
  generalize μ 25 0 s - 1 = C at *
  have lane : ∀ μ1 h1 to, RR dE ad ρ μ1 h1 → μ1 10 0 1 < 30 → to < 8 → (∀ h', RR dE ad ρ (mLane μ1 C s to) h' → post h') → J (nI to) h1 := by
    intro μ1 h1 to r1 w30 t8 hp'
    refine hJ _ _ (fun K hK => ⟨fun q => absurd q (nI_nNN (by omega)), fun _ => ?_⟩)
    refine ⟨t_8 r1 w, _, r_8_19 r1 w, t_49 r1 w, s, rfl, by omega, by rw [n_49 r1 w]; exact hs, fun h12 e12 => ?_⟩
    have r2 : RR dE ad ρ (up μ1 25 0 s 0) h12 := by rw [e12]; exact sa_49 r1 w
    refine ⟨_, r_8_12 r2 w, t_42 r2 w, C, rfl, by omega, by rw [n_42 r2 w]; exact hC, fun h17 e17 => ?_⟩
    have r3 : RR dE ad ρ (up (up μ1 25 0 s 0) 2 C 3 2) h17 := by rw [e17]; exact sa_42 r2 w
    refine ⟨_, r_8_13 r3 w, t_43 r3 w, C, rfl, by omega, by rw [n_43 r3 w]; exact hC, fun h22 e22 => ?_⟩
    have r4 : RR dE ad ρ (up (up (up μ1 25 0 s 0) 2 C 3 2) 2 C 9 to) h22 := by rw [e22]; exact sa_43 r3 w
    have q4 : up (up (up μ1 25 0 s 0) 2 C 3 2) 2 C 9 to 10 0 1 = μ1 10 0 1 := by simp [up]
    refine ⟨_, r_8_20 r4 w, _, m_21 r4 w, t_50 r4 w, μ1 10 0 1, by rw [q4], by omega, by rw [n_50 r4 w]; exact w30, fun h28 e28 => ?_⟩
    have r5 : RR dE ad ρ (up (up (up (up μ1 25 0 s 0) 2 C 3 2) 2 C 9 to) 27 0 (μ1 10 0 1) C) h28 := by rw [e28]; exact sa_50 r4 w
    have q5 : up (up (up (up μ1 25 0 s 0) 2 C 3 2) 2 C 9 to) 27 0 (μ1 10 0 1) C 10 0 1 = μ1 10 0 1 := by simp [up]
    refine ⟨_, m_21 r5 w, fun h31 e31 => hK _ (hp' h31 ?_)⟩
    rw [e31, q5, nI_1]
    exact sn_21 r5 w
  by_cases q : low μ C 10 < s
  · rw [if_pos q] at hp
    rw [if_pos q]
    refine ⟨fun y => absurd y (nI_nNN (by omega)), fun _ => lane μ h _ r (by omega) (by omega) (fun h' r' => hp h' (r'.eqM (fun a b d t => ?_)))⟩
    rw [ta_eq _ _ _ _ _ _ t]
    simp only [mLane, clr, up, eW]
    unfold toldM at t
    repeat' split
    all_goals omega
  · rw [if_neg q] at hp
    rw [if_neg q]
    refine ⟨fun _ K hK L hL => ?_, fun y => absurd (by decide) y⟩
    by_cases y : (s = 6 ∧ ¬ μ 2 C 7 = 0) ∨ (s = 7 ∧ μ 2 C 6 = 0)
    · rw [if_pos y] at hp
      have fl : K := hK ⟨_, r_8_17 r w, t_47 r w, C, rfl, by omega, by rw [n_47 r w]; exact hC, fun h36 e36 => by
        have r1 : RR dE ad ρ (up μ 2 C 7 0) h36 := by rw [e36]; exact sa_47 r w
        have q1 : up μ 2 C 7 0 10 0 1 = μ 10 0 1 := by simp [up]
        refine lane _ h36 5 r1 (by rw [q1]; omega) (by decide) (fun h' r' => hp h' (r'.eqM (fun a b d t => ?_)))
        by_cases e7 : a = 2 ∧ b = C ∧ d = 7
        · obtain ⟨rfl, rfl, rfl⟩ := e7
          rw [up_eq]
          simp [mLane, up]
        · rw [up_ne e7, ta_eq _ _ _ _ _ _ t]
          simp only [mLane, clr, up, eW]
          unfold toldM at t
          repeat' split
          all_goals omega⟩
      refine ⟨fun s6 => ?_, fun s6 => ?_⟩
      · have s6 : s = 6 := (nI_eq (b := 6) (by omega) (by omega)).mp s6
        have e7 : ¬ μ 2 C 7 = 0 := y.elim (fun z => z.2) (fun z => by omega)
        exact ⟨_, r_8_17 r w, t_47 r w, C, rfl, by omega, by rw [n_47 r w]; exact hC, _, a_47 r w hC, fun z => absurd ((nI_eq (b := 0) (by omega) (by omega)).mp z) e7, fun _ => fl⟩
      · have s7 : s = 7 := y.elim (fun z => absurd (by rw [z.1]; rfl) s6) (fun z => z.1)
        have e6 : μ 2 C 6 = 0 := y.elim (fun z => by omega) (fun z => z.2)
        refine hL ⟨fun _ => ⟨_, r_8_16 r w, t_46 r w, C, rfl, by omega, by rw [n_46 r w]; exact hC, _, a_46 r w hC, fun _ => fl, fun z => absurd (by rw [e6]; rfl) z⟩, fun z => absurd (by rw [s7]; rfl) z⟩
    · rw [if_neg y] at hp
      have st : J (nI NN) h := hJ _ _ (fun K hK => ⟨fun _ => hK _ (hp h r), fun z => absurd (by decide) z⟩)
      have lt : L := by
        refine hL ⟨fun s7 => ⟨_, r_8_16 r w, t_46 r w, C, rfl, by omega, by rw [n_46 r w]; exact hC, _, a_46 r w hC, fun z => ?_, fun _ => st⟩, fun _ => st⟩
        exact absurd (Or.inr ⟨(nI_eq (b := 7) (by omega) (by omega)).mp s7, (nI_eq (b := 0) (by omega) (by omega)).mp z⟩) y
      refine ⟨fun s6 => ⟨_, r_8_17 r w, t_47 r w, C, rfl, by omega, by rw [n_47 r w]; exact hC, _, a_47 r w hC, fun _ => lt, fun z => ?_⟩, fun _ => lt⟩
      exact absurd (Or.inl ⟨(nI_eq (b := 6) (by omega) (by omega)).mp s6, fun e => z (by rw [e]; rfl)⟩) y
theorem q_moveOn (r : RR dE ad ρ μ h) (w : WA ρ) (m : WW μ) {post : Int32 → Hp → Prop} (hp : ∀ h', RR dE ad ρ (moveN 7 (leaveS μ)) h' → post (nI (leaveB μ).toNat) h') : wp_X6_moveOn h (ad 8 0) post := by
  have v := m.1.2.1
  have c30 := v.2.2.2.2.1.2.1
  unfold wp_X6_moveOn
  refine ⟨t_8 r w, _, r_8_19 r w, t_49 r w, by rw [n_49 r w]; decide, _, a_49 r w (by decide), fun J hJ => ?_⟩
  have main : ∀ b h', b = leaveB μ → RR dE ad ρ (leaveS μ) h' → J (nI b.toNat) h' := by
    intro b h' hb r'
    refine hJ _ _ (fun L hL => ?_)
    have e7 : (6 : Int32) = nI (7 + NN) := by decide
    rw [e7]
    refine lpD (J := fun x v => L v x) (x := h') (fun x v hb => hL v x hb) 7 (fun n x => ∃ τ, RR dE ad ρ τ x ∧ WW τ ∧ moveN n τ = moveN 7 (leaveS μ)) ⟨leaveS μ, r', (HX_leave m).1, rfl⟩ (fun n x hn e hst => ?_)
    obtain ⟨τ, r2, wt, eN⟩ := e
    have vt := wt.1.2.1
    have ct := vt.2.2.2.2.1.2.1
    cases n with
    | zero =>
      rw [nI_d0]
      refine ⟨fun _ => ?_, fun q => absurd (by decide) q⟩
      rw [hb]
      exact hp x (by rw [← eN]; exact r2)
    | succ k =>
      rw [nI_dn]
      have hk : k < 7 := by omega
      have fin : ∀ h2, RR dE ad ρ (moveS τ k) h2 → L (nI (k + NN)) h2 := fun h2 r3 => hst h2 k rfl ⟨moveS τ k, r3, (HX_move wt hk).1, by rw [← eN]; rfl⟩
      have ek : nI k + -1 = nI (k + NN) := by rw [lm1, nI_add]
      refine ⟨fun q => absurd q (nI_pos (by omega)), fun _ => ⟨t_8 r2 w, _, r_8_19 r2 w, t_49 r2 w, k, rfl, by omega, by rw [n_49 r2 w]; omega, _, a_49 r2 w (by omega), fun K hK => ?_⟩⟩
      have hK : ∀ h2, RR dE ad ρ (moveS τ k) h2 → K h2 := fun h2 r3 => hK h2 (by rw [ek]; exact fin h2 r3)
      by_cases z : τ 25 0 k = 0
      · refine ⟨fun _ => hK x (by rw [moveS, if_neg (fun q => q.1 z)]; exact r2), fun q => absurd (by rw [z]; decide) q⟩
      · obtain ⟨hc, e3, e4⟩ := car_lt wt z
        have ec : nI (τ 25 0 k) - 1 = nI (τ 25 0 k - 1) := nI_subN (b := 1) (by omega)
        refine ⟨fun q => absurd q (nI_m1 z (by omega)), fun _ => ⟨_, r_8_19 r2 w, t_49 r2 w, k + 1, nI_1 k, by omega, by rw [n_49 r2 w]; omega, _, a_49 r2 w (by omega), fun y => ?_, fun y => ?_⟩⟩
        · have y0 : τ 25 0 (k + 1) = 0 := (nI_eq (b := 0) (by have := vt.2.2.2.2.2.2.2.2.2.2 (k + 1); omega) (by omega)).mp y
          rw [ec]
          refine q_done r2 w vt (by omega) hk (fun d hd => ?_)
          cases d with
          | false => exact ⟨fun _ => hK x (by rw [moveS, if_neg (fun q => by rw [← hd] at q; cases q.2.2)]; exact r2), fun q => absurd rfl q⟩
          | true =>
            refine ⟨fun q => absurd q n10, fun _ => ⟨_, r_8_19 r2 w, t_49 r2 w, k, rfl, by omega, by rw [n_49 r2 w]; omega, fun h23 e23 => ?_⟩⟩
            have r3 : RR dE ad ρ (clr τ k) h23 := by rw [e23]; exact sa_49 r2 w
            rw [nI_1]
            exact q_comeTo r3 w (by omega) (by omega) (fun h4 r4 => hK h4 (by rw [moveS, if_pos ⟨z, y0, hd.symm⟩]; exact r4))
        · have y0 : ¬ τ 25 0 (k + 1) = 0 := fun z => y (by rw [z]; rfl)
          exact hK x (by rw [moveS, if_neg (fun q => y0 q.2.1)]; exact r2)
  have no : ∀ h', leaveB μ = false → RR dE ad ρ μ h' → J (nI 0) h' := fun h' lb r' => main false h' lb.symm (by rw [leaveS, if_neg (by rw [lb]; decide)]; exact r')
  by_cases z : μ 25 0 7 = 0
  · exact ⟨fun _ => no h (by simp [leaveB, z]) r, fun q => absurd (by rw [z]; decide) q⟩
  · obtain ⟨hc, e3, e4⟩ := car_lt m z
    have ec : nI (μ 25 0 7) - 1 = nI (μ 25 0 7 - 1) := nI_subN (b := 1) (by omega)
    have b6 := (v.2.2.1 (μ 25 0 7 - 1)).2.1
    refine ⟨fun q => absurd q (nI_m1 z (by omega)), fun _ => ?_⟩
    rw [ec]
    refine q_mask r w v (by omega) ⟨fun e0 => ?_, fun e0 => no h (by simp [leaveB]; exact fun _ q => absurd q e0) r⟩
    refine ⟨_, r_8_16 r w, t_46 r w, _, rfl, by omega, by rw [n_46 r w]; omega, _, a_46 r w (by omega), fun q => ?_, fun q => ?_⟩
    · have e6 : μ 2 (μ 25 0 7 - 1) 6 = 0 := (nI_eq (b := 0) (by omega) (by omega)).mp q
      exact no h (by simp [leaveB, e6]) r
    · have e6 : ¬ μ 2 (μ 25 0 7 - 1) 6 = 0 := fun y => q (by rw [y]; rfl)
      refine q_fits r w v m.1.2.2.1 (by omega) (fun b h' hb r' => ?_)
      cases b with
      | false => exact ⟨fun _ => no h' (by simp [leaveB, ← hb]) r', fun q => absurd rfl q⟩
      | true =>
        refine ⟨fun q => absurd q n10, fun _ => ?_⟩
        refine ⟨t_8 r' w, _, r_8_19 r' w, t_49 r' w, by rw [n_49 r' w]; decide, fun h40 e40 => ?_⟩
        have r1 : RR dE ad ρ (up μ 25 0 7 0) h40 := by rw [e40]; exact sa_49 r' w
        refine ⟨_, r_8_12 r1 w, t_42 r1 w, _, rfl, by omega, by rw [n_42 r1 w]; omega, fun h45 e45 => ?_⟩
        have r2 : RR dE ad ρ (up (up μ 25 0 7 0) 2 (μ 25 0 7 - 1) 3 3) h45 := by rw [e45]; exact sa_42 r1 w
        have lb : leaveB μ = true := by
          have e0 : setI (lack μ (μ 25 0 7 - 1)) 10 = nI 0 := e0
          simp [leaveB, ← hb, z, e0, e6]
        refine main true h45 lb.symm ?_
        rw [leaveS, if_pos lb]
        refine r2.eqM (fun a b d t => ?_)
        simp only [goneS, clr, up]
        unfold toldM at t
        repeat' split
        all_goals omega
theorem q_comeIn (r : RR dE ad ρ μ h) (w : WA ρ) (m : WW μ) {post : Hp → Prop} (hp : ∀ h', RR dE ad ρ (ordersS (laneS μ)) h' → post h') : wp_X6_comeIn h (ad 8 0) post := by
  have b30 : μ 1 4 2 ≤ 30 := m.1.2.1.2.2.2.2.1.2.2.2
  have eW := m.2.1.2.2.2.1
  unfold wp_X6_comeIn
  intro J hJ
  refine lpA (J := fun (x : Int32 × Hp) v => J x.1 v x.2) (x := (nI 0, h)) (fun x v hb => hJ x.1 v x.2 hb) (μ 1 4 2) (fun n x => ∃ k τ, x.1 = nI k ∧ RR dE ad ρ τ x.2 ∧ LI τ n k (μ 1 4 2) ∧ τ 10 0 1 = μ 1 4 2 ∧ laneN (μ 1 4 2 - n) n k τ = laneS μ) ⟨0, μ, rfl, r, LI_start m, eW, by rw [laneS, eW, Nat.sub_zero]⟩ (fun n x hn e hst => ?_)
  obtain ⟨x1, h1⟩ := x
  obtain ⟨k, τ, e1, r', li, ew, eN⟩ := e
  have e1 : x1 = nI k := e1
  subst e1
  have r' : RR dE ad ρ τ h1 := r'
  have li0 := li
  obtain ⟨wi, wp, g1, g5, g6, ⟨a1, a2, a3, a4⟩, b, c, d, e⟩ := li
  refine ⟨t_8 r' w, _, m_21 r' w, fun q => ?_, fun q => ?_⟩
  · rw [ew] at q
    have := (nI_leI (by omega) (by omega)).mp q
    have : n = μ 1 4 2 := by omega
    subst this
    rw [Nat.sub_self] at eN
    have eN : up τ 10 0 1 k = laneS μ := eN
    have wl := (HX_laneS m).1
    intro h4 e4
    have r4 : RR dE ad ρ (laneS μ) h4 := by
      rw [← eN, e4]
      exact sn_21 r' w
    have vl := wl.1.2.1
    have cl := vl.2.2.2.2.1.2.1
    have bl := wl.2.1.2.2.2.2.1.1
    generalize laneS μ = σ at *
    refine ⟨_, m_22 r4 w, _, m_10 r4 w, fun K hK => ⟨fun q => ?_, fun q => ?_⟩⟩
    · have := (nI_leI (by omega) (by omega)).mp q
      exact hK _ (hp _ (by rw [ordersS, if_neg (fun z => by omega)]; exact r4))
    · have lt : σ 10 0 0 < σ 1 2 2 := by
        by_cases z : σ 10 0 0 < σ 1 2 2
        · exact z
        · exact absurd (nI_le (by omega) (by omega)) q
      refine ⟨_, r_8_19 r4 w, t_49 r4 w, by rw [n_49 r4 w]; decide, _, a_49 r4 w (by decide), fun y => ?_, fun y => ?_⟩
      · have y0 : σ 25 0 0 = 0 := (nI_eq (b := 0) (by have := vl.2.2.2.2.2.2.2.2.2.2 0; omega) (by omega)).mp y
        refine ⟨_, m_22 r4 w, q_comeTo (s := 0) r4 w (by omega) (by decide) (fun h5 r5 => ?_)⟩
        have q5 : toLine σ (σ 10 0 0) 0 10 0 0 = σ 10 0 0 := tlx _ _ _ _ _ _ (by decide)
        refine ⟨t_8 r5 w, _, m_22 r5 w, fun h6 e6 => hK _ (hp _ ?_)⟩
        have r6 : RR dE ad ρ (up (toLine σ (σ 10 0 0) 0) 10 0 0 (σ 10 0 0 + 1)) h6 := by
          rw [e6, q5, nI_1]
          exact sn_22 r5 w
        rw [ordersS, if_pos ⟨y0, lt⟩]
        refine r6.eqM (fun a b d t => ?_)
        simp only [toLine, up]
        unfold toldM at t
        repeat' split
        all_goals omega
      · have y0 : ¬ σ 25 0 0 = 0 := fun z => y (by rw [z]; rfl)
        exact hK _ (hp _ (by rw [ordersS, if_neg (fun z => y0 z.1)]; exact r4))
  · rw [ew] at q
    have hn2 : n < μ 1 4 2 := by
      by_cases z : n < μ 1 4 2
      · exact z
      · exact absurd (nI_le (by omega) (by omega)) q
    have hm : k < τ 1 4 2 := by omega
    have ec : τ 27 0 n = τ 26 4 k := by rw [e n (Nat.le_refl _) hn2, Nat.sub_self, Nat.add_zero]
    obtain ⟨hc, hw⟩ := b k hm
    rw [← ec] at hc hw
    have c30 := wi.2.1.2.2.2.2.1.2.1
    have s8 : τ 2 (τ 27 0 n) 9 < 8 := (wi.2.1.2.2.1 (τ 27 0 n)).2.2.2.2.2
    have ed : μ 1 4 2 - n = (μ 1 4 2 - (n + 1)) + 1 := by omega
    rw [ed] at eN
    unfold laneN at eN
    refine ⟨_, r_8_20 r' w, t_50 r' w, n, rfl, by omega, by rw [n_50 r' w]; omega, _, a_50 r' w (by omega), _, r_8_19 r' w, _, r_8_13 r' w, t_43 r' w, τ 27 0 n, rfl, by omega, by rw [n_43 r' w]; omega, _, a_43 r' w (by omega), t_49 r' w, τ 2 (τ 27 0 n) 9, rfl, by omega, by rw [n_49 r' w]; omega, _, a_49 r' w (by omega), fun K hK => ⟨fun y => ?_, fun y => ?_⟩⟩
    · have y0 : τ 25 0 (τ 2 (τ 27 0 n) 9) = 0 := (nI_eq (b := 0) (by have := wi.2.1.2.2.2.2.2.2.2.2.2.2 (τ 2 (τ 27 0 n) 9); omega) (by omega)).mp y
      rw [if_pos y0] at eN
      refine ⟨_, r_8_13 r' w, t_43 r' w, τ 27 0 n, rfl, by omega, by rw [n_43 r' w]; omega, _, a_43 r' w (by omega), q_comeTo r' w (by omega) s8 (fun h40 r40 => hK _ _ ?_)⟩
      have r41 : RR dE ad ρ (toLine (remS τ k) (τ 27 0 n) (τ 2 (τ 27 0 n) 9)) h40 := by
        refine r40.eqM (fun a b d t => ?_)
        simp only [toLine, up, remS]
        unfold toldM at t
        repeat' split
        all_goals omega
      have := hst (nI k, h40) hn2 ⟨k, _, rfl, r41, (LI_come li0 hn2 y0).1, by rw [tlx _ _ _ _ _ _ (by decide), rmy _ _ _ _ _ (by decide) (by decide)]; exact ew, eN⟩
      rw [← nI_1 n] at this
      exact this
    · have y0 : ¬ τ 25 0 (τ 2 (τ 27 0 n) 9) = 0 := fun z => y (by rw [z]; rfl)
      rw [if_neg y0] at eN
      refine ⟨_, r_8_20 r' w, t_50 r' w, k, rfl, by omega, by rw [n_50 r' w]; omega, fun h35 e35 => hK _ _ ?_⟩
      have r41 : RR dE ad ρ (up τ 27 0 k (τ 27 0 n)) h35 := by rw [e35]; exact sa_50 r' w
      have := hst (nI (k + 1), h35) hn2 ⟨k + 1, _, rfl, r41, (LI_stay li0 hn2).1, by rw [up_ne (fun z => by cases z.1)]; exact ew, eN⟩
      rw [← nI_1 n, ← nI_1 k] at this
      exact this
end MT
