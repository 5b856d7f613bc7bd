/-! the Model's calls that write -/
theorem i_dist (b x y : Int32) : (b ||| x) &&& y = (b &&& y) ||| (x &&& y) := by
  apply Int32.toBitVec_inj.mp
  simp only [Int32.toBitVec_and, Int32.toBitVec_or]
  ext i hi
  simp only [BitVec.getElem_and, BitVec.getElem_or]
  exact Bool.and_or_distrib_right _ _ _
theorem i_absorb (b x : Int32) : (b ||| x) &&& x = x := by
  apply Int32.toBitVec_inj.mp
  simp only [Int32.toBitVec_and, Int32.toBitVec_or]
  ext i hi
  simp only [BitVec.getElem_and, BitVec.getElem_or]
  cases b.toBitVec[i] <;> cases x.toBitVec[i] <;> rfl
theorem sh_ne : ∀ c, c < 30 → (nI 1 <<< (nI c &&& 31)) ≠ nI 0 := by decide +kernel
theorem sh_and : ∀ c, c < 30 → ∀ d, d < 30 → c ≠ d → (nI 1 <<< (nI c &&& 31)) &&& (nI 1 <<< (nI d &&& 31)) = nI 0 := by decide +kernel
theorem WSg_sign {σ : St} (g : WSg σ) {n c : Nat} (hc : c < 30) : WSg (signS σ n c) := by
  intro m d hd
  have e28 : signS σ n c 28 m d = if m = n ∧ d = c then 1 else σ 28 m d := by simp [signS, up]
  have e3 : signS σ n c 3 m 2 = if m = n then (signI σ n c).toBitVec.toNat else σ 3 m 2 := by simp [signS, up]
  unfold sgnd
  rw [e28, e3]
  obtain ⟨g1, g2⟩ := g m d hd
  unfold sgnd at g2
  by_cases em : m = n
  · subst em
    rw [if_pos rfl, xN]
    unfold signI
    by_cases ed : d = c
    · subst ed
      rw [if_pos ⟨rfl, rfl⟩, i_absorb]
      refine ⟨Nat.le_refl 1, ?_⟩
      simp [sh_ne d hd]
    · rw [if_neg (fun z => ed z.2), i_dist, sh_and c hc d hd (fun z => ed z.symm)]
      refine ⟨g1, ?_⟩
      have : (nI (σ 3 m 2) &&& (nI 1 <<< (nI d &&& 31))) ||| nI 0 = nI (σ 3 m 2) &&& (nI 1 <<< (nI d &&& 31)) := Int32.or_zero
      rw [this]
      exact g2
  · rw [if_neg em, if_neg (fun z => em z.1)]
    exact ⟨g1, g2⟩
theorem WW_kind {σ : St} (w : WW σ) {k s a b f : Nat} (hs : s ≤ 4) (hf : f ≤ 1) : WW (kindS σ k s a b f) :=
  WW_up (WW_up (WW_up (WW_up w (by simp [okU]; omega) (by simp)) (by simp [okU]) (by simp)) (by simp [okU]) (by simp)) (by simp [okU]; omega) (by simp)
theorem WW_recall {σ : St} (w : WW σ) {l : Nat} (hl : l < σ 1 1 2) : WW (recallS σ l) := WW_up w (by simp [okU, hl]) (by simp)
theorem WW_fault {σ : St} (w : WW σ) {c : Nat} (hc : c < σ 1 2 2) : WW (faultS σ c) := WW_up w (by simp [okU, hc]) (by simp)
theorem WW_flash {σ : St} (w : WW σ) {c n : Nat} (hc : c < σ 1 2 2) (hn : n < σ 1 3 2) : WW (flashS σ c n) :=
  WW_up (WW_up (WW_up w (by simp [okU, hc]; omega) (by simp)) (by simp [okU, up, hc]) (by simp)) (by simp [okU, up, hc]) (by simp)
theorem WW_sign {σ : St} (w : WW σ) {n c : Nat} (hn : n < σ 1 3 2) (hc : c < 30) : WW (signS σ n c) := by
  obtain ⟨⟨a, b, g, d, e⟩, wl, wp⟩ := w
  have z : ∀ t i j, t ≠ 28 → ¬ (t = 3 ∧ j = 2) → signS σ n c t i j = σ t i j := fun t i j h1 h2 => by
    unfold signS
    rw [up_ne (fun y => h1 y.1), up_ne (fun y => h2 ⟨y.1, y.2.2⟩)]
  have zz : ∀ t, t ≠ 28 → t ≠ 3 → ∀ i j, signS σ n c t i j = σ t i j := fun t h1 h2 i j => z t i j h1 (fun y => h2 y.1)
  have z30 : ∀ m, signS σ n c 3 m 0 = σ 3 m 0 := fun m => z 3 m 0 (by decide) (by simp)
  refine ⟨⟨WA_up (WA_up a (by simp) (by decide) (by decide) (by decide)) (by simp) (by decide) (by decide) (by decide), ?_, WSg_sign g hc, WC_up (WC_up d (by decide) (by decide)) (by decide) (by decide), ?_⟩, WL_cong wl (fun _ _ _ => zz _ (by decide) (by decide) _ _) (fun _ => zz _ (by decide) (by decide) _ _) (fun _ => zz _ (by decide) (by decide) _ _) (fun _ => zz _ (by decide) (by decide) _ _) (fun _ => zz _ (by decide) (by decide) _ _) (zz _ (by decide) (by decide) _ _) (zz _ (by decide) (by decide) _ _), WPk_up (WPk_up wp (by decide)) (by decide)⟩
  · unfold WV at *
    simp only [zz 1 (by decide) (by decide), zz 2 (by decide) (by decide), zz 4 (by decide) (by decide), zz 5 (by decide) (by decide), zz 19 (by decide) (by decide), zz 24 (by decide) (by decide), zz 25 (by decide) (by decide), z30]
    exact b
  · obtain ⟨e1, e2, e3, e4⟩ := e
    unfold WZ
    simp only [zz 1 (by decide) (by decide), zz 2 (by decide) (by decide), zz 5 (by decide) (by decide), zz 6 (by decide) (by decide), zz 19 (by decide) (by decide), zz 24 (by decide) (by decide)]
    refine ⟨e1, e2, fun m j hm => ?_, e4⟩
    have ne : m ≠ n := by omega
    have q3 : signS σ n c 3 m j = σ 3 m j := by unfold signS; rw [up_ne (fun y => by cases y.1), up_ne (fun y => ne y.2.1)]
    have q28 : signS σ n c 28 m j = σ 28 m j := by unfold signS; rw [up_ne (fun y => ne y.2.1), up_ne (fun y => by cases y.1)]
    rw [q3, q28]
    exact e3 m j hm
section MC
variable {dE : Nat} {ad : Nat → Nat → Nat} {ρ μ : St} {h : Hp}
/-! kind -/
theorem q_kindN1 (r : RR dE ad ρ μ h) (w : WA ρ) {x y1 y2 y3 y4 : Int32} (hx : NL x 10) {post : Hp → Prop} (hp : ∀ h', RR dE ad ρ (up μ 98 0 0 1) h' → post h') : wp_X6_kind h (ad 8 0) x y1 y2 y3 y4 post := by
  unfold wp_X6_kind
  have all : ∀ {J36 : Prop} {J : Int32 → Prop}, (∀ t, J t) → (J (0 : Int32) → J36) → wp_X6_in h y2 (0 : Int32) (255 : Int32) (fun x33 => ((x33 = 0 → J36) ∧ (¬ (x33 = 0) → wp_X6_in h y3 (0 : Int32) (255 : Int32) (fun x35 => ((x35 = 0 → J36) ∧ (¬ (x35 = 0) → J (1 : Int32))))))) := by
    intro K J main hK
    refine q_inB (a := 0) (b := 255) ⟨fun _ => hK (main _), fun q => absurd rfl q⟩ ⟨fun q => absurd q n10, fun _ => ?_⟩
    exact q_inB (a := 0) (b := 255) ⟨fun _ => hK (main _), fun q => absurd rfl q⟩ ⟨fun q => absurd q n10, fun _ => main _⟩
  refine q_inB (a := 0) (b := 4) (fun J hJ K hK => ?_) (fun J hJ K hK => ?_)
  · have main : ∀ t, J t := fun t => hJ t (q_kind0 hx (fun L hL => ⟨fun _ => hL _ ⟨t_8 r w, q_wellN (k := 1) r w (by decide) (by decide) (fun h3 r3 M hM => ⟨fun _ => hM _ (hp h3 r3), fun q => absurd rfl q⟩)⟩, fun q => absurd rfl q⟩))
    exact ⟨fun _ => hK (main _), fun _ => all main hK⟩
  · have main : ∀ t, J t := fun t => hJ t (q_kind0 hx (fun L hL => ⟨fun _ => hL _ ⟨t_8 r w, q_wellN (k := 1) r w (by decide) (by decide) (fun h3 r3 M hM => ⟨fun _ => hM _ (hp h3 r3), fun q => absurd rfl q⟩)⟩, fun q => absurd rfl q⟩))
    exact ⟨fun _ => hK (main _), fun _ => all main hK⟩
theorem NR_no {n b : Nat} (h1 : n ≤ b) (hb : b < 2147483648) {a : Nat} (h2 : a ≤ n) : ¬ NR (nI n) a b := fun z => z.elim (fun z => nI_nlt h2 (by omega) z) (fun z => nI_nlt h1 (by omega) z)
theorem q_kindN2 (r : RR dE ad ρ μ h) (w : WA ρ) {k : Nat} {y1 y2 y3 y4 : Int32} (hk : k < 10) (hx : NR y1 0 4 ∨ NR y2 0 255 ∨ NR y3 0 255) {post : Hp → Prop} (hp : ∀ h', RR dE ad ρ (up μ 98 0 0 2) h' → post h') : wp_X6_kind h (ad 8 0) (nI k) y1 y2 y3 y4 post := by
  unfold wp_X6_kind
  rcases NR_or (a := 0) (b := 4) (by decide) (by decide) y1 with ⟨s, -, hs, rfl⟩ | q1
  · refine q_in1 (a := 0) (b := 4) (Nat.zero_le _) hs (by omega) (fun J hJ K hK => ⟨fun q => absurd q n10, fun _ => ?_⟩)
    have main : K := hK (hJ _ (q_kind1 hk (fun L hL => ⟨fun q => absurd q n10, fun _ => ⟨fun _ => hL _ ⟨t_8 r w, q_wellN (k := 2) r w (by decide) (by decide) (fun h3 r3 M hM => ⟨fun _ => hM _ (hp h3 r3), fun q => absurd rfl q⟩)⟩, fun q => absurd rfl q⟩⟩)))
    rcases NR_or (a := 0) (b := 255) (by decide) (by decide) y2 with ⟨a, -, ha, rfl⟩ | q2
    · refine q_in1 (a := 0) (b := 255) (Nat.zero_le _) ha (by omega) ⟨fun q => absurd q n10, fun _ => ?_⟩
      rcases NR_or (a := 0) (b := 255) (by decide) (by decide) y3 with ⟨b, -, hb, rfl⟩ | q3
      · exact absurd hx (fun z => z.elim (NR_no hs (by decide) (Nat.zero_le _)) (fun z => z.elim (NR_no ha (by decide) (Nat.zero_le _)) (NR_no hb (by decide) (Nat.zero_le _))))
      · exact q_in0 (a := 0) (b := 255) q3 ⟨fun _ => main, fun q => absurd rfl q⟩
    · exact q_in0 (a := 0) (b := 255) q2 ⟨fun _ => main, fun q => absurd rfl q⟩
  · exact q_in0 (a := 0) (b := 4) q1 (fun J hJ K hK => ⟨fun _ => hK (hJ _ (q_kind1 hk (fun L hL => ⟨fun q => absurd q n10, fun _ => ⟨fun _ => hL _ ⟨t_8 r w, q_wellN (k := 2) r w (by decide) (by decide) (fun h3 r3 M hM => ⟨fun _ => hM _ (hp h3 r3), fun q => absurd rfl q⟩)⟩, fun q => absurd rfl q⟩⟩))), fun q => absurd rfl q⟩)
theorem q_kindN3 (r : RR dE ad ρ μ h) (w : WA ρ) (v : WV μ) {k s a b : Nat} {y4 : Int32} (hk : k < 10) (hs : s ≤ 4) (ha : a ≤ 255) (hb : b ≤ 255) (hc : μ 1 2 2 ≠ 0) {post : Hp → Prop} (hp : ∀ h', RR dE ad ρ (up μ 98 0 0 3) h' → post h') : wp_X6_kind h (ad 8 0) (nI k) (nI s) (nI a) (nI b) y4 post := by
  have b30 := v.2.2.2.2.1.2.1
  unfold wp_X6_kind
  refine q_in1 (a := 0) (b := 4) (Nat.zero_le _) hs (by omega) (fun J hJ K hK => ⟨fun q => absurd q n10, fun _ => q_in1 (a := 0) (b := 255) (Nat.zero_le _) ha (by omega) ⟨fun q => absurd q n10, fun _ => q_in1 (a := 0) (b := 255) (Nat.zero_le _) hb (by omega) ⟨fun q => absurd q n10, fun _ => hJ _ (q_kind1 hk (fun L hL => ⟨fun q => absurd q n10, fun _ => ⟨fun q => absurd q n10, fun _ => ⟨t_8 r w, _, m_10 r w, fun q => absurd q (fun q => hc (by have := (nI_leI (b := 0) (by omega) (by omega)).mp q; omega)), fun _ => hL _ ⟨t_8 r w, q_wellN (k := 3) r w (by decide) (by decide) (fun h3 r3 M hM => ⟨fun _ => hM _ (hp h3 r3), fun q => absurd rfl q⟩)⟩⟩⟩⟩))⟩⟩⟩)
theorem q_kindN4 (r : RR dE ad ρ μ h) (w : WA ρ) {k s a b f : Nat} (hk : k < 10) (hs : s ≤ 4) (ha : a ≤ 255) (hb : b ≤ 255) (hf : f ≤ 1) (hc : μ 1 2 2 = 0) {post : Hp → Prop} (hp : ∀ h', RR dE ad ρ (up (kindS μ k s a b f) 98 0 0 0) h' → post h') : wp_X6_kind h (ad 8 0) (nI k) (nI s) (nI a) (nI b) (nI f) post := by
  unfold wp_X6_kind
  refine q_in1 (a := 0) (b := 4) (Nat.zero_le _) hs (by omega) (fun J hJ K hK => ⟨fun q => absurd q n10, fun _ => q_in1 (a := 0) (b := 255) (Nat.zero_le _) ha (by omega) ⟨fun q => absurd q n10, fun _ => q_in1 (a := 0) (b := 255) (Nat.zero_le _) hb (by omega) ⟨fun q => absurd q n10, fun _ => hJ _ (q_kind1 hk (fun L hL => ⟨fun q => absurd q n10, fun _ => ⟨fun q => absurd q n10, fun _ => ⟨t_8 r w, _, m_10 r w, fun _ => hL _ ⟨t_8 r w, q_well0 r w (fun h3 r3 M hM => ⟨fun q => absurd q n10, fun _ => ?_⟩)⟩, fun q => absurd (by rw [hc]; decide) q⟩⟩⟩))⟩⟩⟩)
  refine ⟨t_8 r3 w, _, r_8_1 r3 w, t_31 r3 w, k, rfl, by omega, by rw [n_31 r3 w]; exact hk, fun h10 e10 => ?_⟩
  have r4 : RR dE ad ρ (up (up μ 98 0 0 0) 4 k 0 s) h10 := by rw [e10]; exact sa_31 r3 w
  refine ⟨_, r_8_2 r4 w, t_32 r4 w, k, rfl, by omega, by rw [n_32 r4 w]; exact hk, fun h15 e15 => ?_⟩
  have r5 : RR dE ad ρ (up (up (up μ 98 0 0 0) 4 k 0 s) 4 k 1 a) h15 := by rw [e15]; exact sa_32 r4 w
  refine ⟨_, r_8_3 r5 w, t_33 r5 w, k, rfl, by omega, by rw [n_33 r5 w]; exact hk, fun h20 e20 => ?_⟩
  have r6 : RR dE ad ρ (up (up (up (up μ 98 0 0 0) 4 k 0 s) 4 k 1 a) 4 k 2 b) h20 := by rw [e20]; exact sa_33 r5 w
  refine ⟨_, r_8_4 r6 w, t_34 r6 w, k, rfl, by omega, by rw [n_34 r6 w]; exact hk, b01_v1 hf, fun h26 e26 => hM _ (hp h26 ?_)⟩
  have r7 : RR dE ad ρ (up (up (up (up (up μ 98 0 0 0) 4 k 0 s) 4 k 1 a) 4 k 2 b) 4 k 3 f) h26 := by rw [e26]; exact sa_34 r6 w
  refine r7.eqM (fun a' b' d t => ?_)
  simp only [kindS, up]
  repeat' split
  all_goals omega
/-! recall -/
theorem q_recall0 (r : RR dE ad ρ μ h) (w : WA ρ) (v : WV μ) {x : Int32} (hx : NL x (μ 1 1 2)) {post : Int32 → Hp → Prop} (hp : ∀ h', RR dE ad ρ (up μ 98 0 0 1) h' → post (nI 0) h') : wp_X6_recall h (ad 8 0) x post := by
  unfold wp_X6_recall
  exact ⟨t_8 r w, q_lot0 r w v hx (fun J hJ => ⟨fun _ => hJ _ (q_wellN (k := 1) r w (by decide) (by decide) (fun h3 r3 => ⟨fun _ => hp h3 r3, fun q => absurd rfl q⟩)), fun q => absurd rfl q⟩)⟩
theorem q_recall1 (r : RR dE ad ρ μ h) (w : WA ρ) (v : WV μ) {l : Nat} (hl : l < μ 1 1 2) (z : μ 5 l 4 ≠ 0) {post : Int32 → Hp → Prop} (hp : ∀ h', RR dE ad ρ (up μ 98 0 0 2) h' → post (nI 0) h') : wp_X6_recall h (ad 8 0) (nI l) post := by
  have b40 := v.2.2.2.2.1.1
  have b4 := (v.2.1 l).2.2.2
  unfold wp_X6_recall
  exact ⟨t_8 r w, q_lot1 r w v hl (fun J hJ => ⟨fun q => absurd q n10, fun _ => ⟨_, r_8_9 r w, t_39 r w, l, rfl, by omega, by rw [n_39 r w]; omega, _, a_39 r w (by omega), fun q => absurd (nI0 (by omega) q) z, fun _ => hJ _ (q_wellN (k := 2) r w (by decide) (by decide) (fun h3 r3 => ⟨fun _ => hp h3 r3, fun q => absurd rfl q⟩))⟩⟩)⟩
theorem q_recall2 (r : RR dE ad ρ μ h) (w : WA ρ) (v : WV μ) {l : Nat} (hl : l < μ 1 1 2) (z : μ 5 l 4 = 0) {post : Int32 → Hp → Prop} (hp : ∀ h', RR dE ad ρ (up (recallS μ l) 98 0 0 0) h' → post (nI (cnt (hasLot μ l) (μ 1 2 2))) h') : wp_X6_recall h (ad 8 0) (nI l) post := by
  have b40 := v.2.2.2.2.1.1
  have b30 := v.2.2.2.2.1.2.1
  have b10 := (v.2.1 l).1
  unfold wp_X6_recall
  refine ⟨t_8 r w, q_lot1 r w v hl (fun J hJ => ⟨fun q => absurd q n10, fun _ => ⟨_, r_8_9 r w, t_39 r w, l, rfl, by omega, by rw [n_39 r w]; omega, _, a_39 r w (by omega), fun _ => hJ _ (q_well0 r w (fun h3 r3 => ⟨fun q => absurd q n10, fun _ => ?_⟩)), fun q => absurd (nI0' z) q⟩⟩)⟩
  refine ⟨t_8 r3 w, _, r_8_9 r3 w, t_39 r3 w, l, rfl, by omega, by rw [n_39 r3 w]; omega, fun h9 e9 => ?_⟩
  have r4 : RR dE ad ρ (up (up μ 98 0 0 0) 5 l 4 1) h9 := by rw [e9]; exact sa_39 r3 w
  have hp := hp h9 (r4.eqM (fun a b d t => by
    simp only [recallS, up]
    repeat' split
    all_goals omega))
  have u1 : ∀ i j, up (up μ 98 0 0 0) 5 l 4 1 1 i j = μ 1 i j := fun i j => by rw [up_ne (fun z => by cases z.1), u98 (by decide)]
  have u24 : ∀ i j, up (up μ 98 0 0 0) 5 l 4 1 24 i j = μ 24 i j := fun i j => by rw [up_ne (fun z => by cases z.1), u98 (by decide)]
  have u5 : up (up μ 98 0 0 0) 5 l 4 1 5 l 1 = μ 5 l 1 := by rw [up_ne (fun z => by cases z.2.2), u98 (by decide)]
  have mm : hI h9 (ad 8 0) 10 = nI (μ 1 2 2) := by rw [m_10 r4 w, u1]
  have m36 : hI h9 (ad 36 0) l = nI (μ 5 l 1) := by rw [a_36 r4 w (by omega), u5]
  intro K hK
  refine lpA (J := K) hK (μ 1 2 2) (fun k x => x = nI (cnt (hasLot μ l) k)) rfl (fun c x hc e hs => ?_)
  subst e
  refine ⟨_, mm, fun q => ?_, fun q => ?_⟩
  · have := (nI_leI (by omega) (by omega)).mp q
    have : c = μ 1 2 2 := by omega
    subst this
    exact hp
  · have hc2 : c < μ 1 2 2 := by
      by_cases y : c < μ 1 2 2
      · exact y
      · exact absurd (nI_le (by omega) (by omega)) q
    have m44 : hI h9 (ad 44 0) (10 * c + μ 5 l 1) = nI (μ 24 c (μ 5 l 1)) := by rw [a44 r4 w (by omega) b10, u24]
    have l24 := v.2.2.2.2.2.2.2.2.1 c (μ 5 l 1)
    have stp : cnt (hasLot μ l) (c + 1) = if hasLot μ l c = true then cnt (hasLot μ l) c + 1 else cnt (hasLot μ l) c := rfl
    refine ⟨_, r_8_14 r4 w, _, r_8_6 r4 w, t_36 r4 w, l, rfl, by omega, by rw [n_36 r4 w]; omega, _, m36, t_44 r4 w, 10 * c + μ 5 l 1, i10 c _, by omega, by rw [n_44 r4 w]; omega, _, m44, fun L hL => ?_⟩
    have nx : ∀ x, nI (cnt (hasLot μ l) c) + x = nI (cnt (hasLot μ l) (c + 1)) → L x := fun x ex => hL x (by rw [nI_1, ex]; exact hs _ hc2 rfl)
    refine ⟨fun q => nx _ ?_, fun q => nx _ ?_⟩
    · rw [nI_1] at q
      have := (nI_eq (by omega) (by omega)).mp q
      rw [stp, if_pos (by simp [hasLot, this])]
      exact nI_1 _
    · have ne : ¬ μ 24 c (μ 5 l 1) = l + 1 := fun y => q (by rw [y, nI_1])
      rw [stp, if_neg (by simp [hasLot, ne])]
      exact Int32.add_zero _
/-! fault -/
theorem q_fault0 (r : RR dE ad ρ μ h) (w : WA ρ) (v : WV μ) {x : Int32} (hx : NL x (μ 1 2 2)) {post : Int32 → Hp → Prop} (hp : ∀ h', RR dE ad ρ (up μ 98 0 0 1) h' → post (nI 0) h') : wp_X6_fault h (ad 8 0) x post := by
  unfold wp_X6_fault
  exact ⟨t_8 r w, q_car0 r w v hx (fun J hJ => ⟨fun _ => hJ _ (q_wellN (k := 1) r w (by decide) (by decide) (fun h3 r3 => ⟨fun _ => hp h3 r3, fun q => absurd rfl q⟩)), fun q => absurd rfl q⟩)⟩
theorem q_fault1 (r : RR dE ad ρ μ h) (w : WA ρ) (v : WV μ) {c : Nat} (hc : c < μ 1 2 2) (z : μ 2 c 3 = 3) {post : Int32 → Hp → Prop} (hp : ∀ h', RR dE ad ρ (up μ 98 0 0 2) h' → post (nI 0) h') : wp_X6_fault h (ad 8 0) (nI c) post := by
  have b30 := v.2.2.2.2.1.2.1
  unfold wp_X6_fault
  exact ⟨t_8 r w, q_car1 r w v hc (fun J hJ => ⟨fun q => absurd q n10, fun _ => ⟨_, r_8_12 r w, t_42 r w, c, rfl, by omega, by rw [n_42 r w]; omega, _, a_42 r w (by omega), fun _ => hJ _ (q_wellN (k := 2) r w (by decide) (by decide) (fun h3 r3 => ⟨fun _ => hp h3 r3, fun q => absurd rfl q⟩)), fun q => absurd (by rw [z]; rfl) q⟩⟩)⟩
theorem q_fault2 (r : RR dE ad ρ μ h) (w : WA ρ) (v : WV μ) {c : Nat} (hc : c < μ 1 2 2) (z : μ 2 c 3 ≠ 3) {post : Int32 → Hp → Prop} (hp : ∀ h', RR dE ad ρ (up (faultS μ c) 98 0 0 0) h' → post (nI (decide (μ 2 c 8 = 0)).toNat) h') : wp_X6_fault h (ad 8 0) (nI c) post := by
  have b30 := v.2.2.2.2.1.2.1
  have b3 := (v.2.2.1 c).1
  have b8 := (v.2.2.1 c).2.2.2.1
  unfold wp_X6_fault
  refine ⟨t_8 r w, q_car1 r w v hc (fun J hJ => ⟨fun q => absurd q n10, fun _ => ⟨_, r_8_12 r w, t_42 r w, c, rfl, by omega, by rw [n_42 r w]; omega, _, a_42 r w (by omega), fun q => absurd ((nI_eq (b := 3) (by omega) (by omega)).mp q) z, fun _ => hJ _ (q_well0 r w (fun h3 r3 => ⟨fun q => absurd q n10, fun _ => ?_⟩))⟩⟩)⟩
  have m48 : hI h3 (ad 48 0) c = nI (μ 2 c 8) := by rw [a_48 r3 w (by omega), u98 (by decide)]
  refine ⟨t_8 r3 w, _, r_8_18 r3 w, t_48 r3 w, c, rfl, by omega, by rw [n_48 r3 w]; omega, _, m48, _, r_8_18 r3 w, t_48 r3 w, c, rfl, by omega, by rw [n_48 r3 w]; omega, fun h13 e13 K hK => ?_⟩
  have r4 : RR dE ad ρ (up (up μ 98 0 0 0) 2 c 8 1) h13 := by rw [e13]; exact sa_48 r3 w
  have hp := hp h13 (r4.eqM (fun a b d t => by
    simp only [faultS, up]
    repeat' split
    all_goals omega))
  by_cases y : μ 2 c 8 = 0
  · rw [decide_eq_true y] at hp
    exact ⟨fun _ => hK _ ⟨Or.inr rfl, hp⟩, fun q => absurd (nI0' y) q⟩
  · rw [decide_eq_false y] at hp
    exact ⟨fun q => absurd (nI0 (by omega) q) y, fun _ => hK _ ⟨Or.inl rfl, hp⟩⟩
/-! sign -/
theorem i30 (n c : Nat) : (30 : Int32) * nI n + nI c = nI (30 * n + c) := by rw [l30, nI_mul, nI_add]
theorem q_sign0 (r : RR dE ad ρ μ h) (w : WA ρ) (v : WV μ) {x y : Int32} (hx : NL x (μ 1 3 2) ∨ NL y (μ 1 2 2)) {post : Int32 → Hp → Prop} (hp : ∀ h', RR dE ad ρ (up μ 98 0 0 1) h' → post (nI 0) h') : wp_X6_sign h (ad 8 0) x y post := by
  have b := v.2.2.2.2.1.2.2.1
  unfold wp_X6_sign
  refine ⟨t_8 r w, ?_⟩
  rcases NL_or (N := μ 1 3 2) (by omega) x with ⟨n, hn, rfl⟩ | q
  · have hy : NL y (μ 1 2 2) := hx.elim (fun z => by
      exfalso
      exact z.elim (fun z => nI_nlt (Nat.zero_le _) (by omega) z) (fun z => nI_ge hn (by omega) z)) id
    exact q_img1 r w v hn (fun J hJ K hK => ⟨fun q => absurd q n10, fun _ => q_car0 r w v hy ⟨fun _ => hK (hJ _ (q_wellN (k := 1) r w (by decide) (by decide) (fun h3 r3 => ⟨fun _ => hp h3 r3, fun q => absurd rfl q⟩))), fun q => absurd rfl q⟩⟩)
  · exact q_img0 r w v q (fun J hJ K hK => ⟨fun _ => hK (hJ _ (q_wellN (k := 1) r w (by decide) (by decide) (fun h3 r3 => ⟨fun _ => hp h3 r3, fun q => absurd rfl q⟩))), fun q => absurd rfl q⟩)
theorem q_sign1 (r : RR dE ad ρ μ h) (w : WA ρ) (m : WW μ) {n c : Nat} (hn : n < μ 1 3 2) (hc : c < μ 1 2 2) {post : Int32 → Hp → Prop} (hp : ∀ h', RR dE ad ρ (up (signS μ n c) 98 0 0 0) h' → post (nI (!sgnd μ n c).toNat) h') : wp_X6_sign h (ad 8 0) (nI n) (nI c) post := by
  have v := m.1.2.1
  have b40 := v.2.2.2.2.1.2.2.1
  have b30 := v.2.2.2.2.1.2.1
  have hC : c < 30 := by omega
  obtain ⟨g1, g2⟩ := m.1.2.2.1 n c hC
  unfold wp_X6_sign
  refine ⟨t_8 r w, q_img1 r w v hn (fun J hJ K hK => ⟨fun q => absurd q n10, fun _ => q_car1 r w v hc ⟨fun q => absurd q n10, fun _ => hJ _ (q_well0 r w (fun h3 r3 => ⟨fun q => absurd q n10, fun _ => ?_⟩))⟩⟩)⟩
  have m55 : hI h3 (ad 55 0) (30 * n + c) = nI (μ 28 n c) := by rw [a_55 r3 w (by omega), u98 (by decide), d30 hC, m30 hC]
  refine ⟨t_8 r3 w, _, r_8_25 r3 w, t_55 r3 w, 30 * n + c, i30 n c, by omega, by rw [n_55 r3 w]; omega, _, m55, _, r_8_25 r3 w, t_55 r3 w, 30 * n + c, i30 n c, by omega, by rw [n_55 r3 w]; omega, fun h13 e13 L hL => ?_⟩
  have r4 : RR dE ad ρ (up (up μ 98 0 0 0) 28 n c 1) h13 := by rw [e13]; exact sa_55 r3 w hC
  have hp := hp h13 (r4.eqM (fun a b d t => by
    simp only [signS, up]
    unfold toldM at t
    repeat' split
    all_goals omega))
  rw [g2] at hp
  by_cases y : μ 28 n c = 0
  · have : (!decide (μ 28 n c ≠ 0)) = true := by simp [y]
    rw [this] at hp
    exact ⟨fun _ => hL _ ⟨Or.inr rfl, hp⟩, fun q => absurd (nI0' y) q⟩
  · have : (!decide (μ 28 n c ≠ 0)) = false := by simp [y]
    rw [this] at hp
    exact ⟨fun q => absurd (nI0 (by omega) q) y, fun _ => hL _ ⟨Or.inl rfl, hp⟩⟩
/-! flash -/
theorem q_flash0 (r : RR dE ad ρ μ h) (w : WA ρ) (v : WV μ) {x y : Int32} (hx : NL x (μ 1 2 2) ∨ NL y (μ 1 3 2)) {post : Int32 → Hp → Prop} (hp : ∀ h', RR dE ad ρ (up μ 98 0 0 1) h' → post (nI 0) h') : wp_X6_flash h (ad 8 0) x y post := by
  have b := v.2.2.2.2.1.2.1
  unfold wp_X6_flash
  refine ⟨t_8 r w, ?_⟩
  rcases NL_or (N := μ 1 2 2) (by omega) x with ⟨n, hn, rfl⟩ | q
  · have hy : NL y (μ 1 3 2) := hx.elim (fun z => by
      exfalso
      exact z.elim (fun z => nI_nlt (Nat.zero_le _) (by omega) z) (fun z => nI_ge hn (by omega) z)) id
    exact q_car1 r w v hn (fun J hJ K hK => ⟨fun q => absurd q n10, fun _ => q_img0 r w v hy ⟨fun _ => hK (hJ _ (fun L hL M hM => ⟨fun _ => hM (hL _ (fun N hN => ⟨fun _ => hN _ (q_wellN (k := 1) r w (by decide) (by decide) (fun h3 r3 => ⟨fun _ => hp h3 r3, fun q => absurd rfl q⟩)), fun q => absurd rfl q⟩)), fun q => absurd rfl q⟩)), fun q => absurd rfl q⟩⟩)
  · exact q_car0 r w v q (fun J hJ K hK => ⟨fun _ => hK (hJ _ (fun L hL M hM => ⟨fun _ => hM (hL _ (fun N hN => ⟨fun _ => hN _ (q_wellN (k := 1) r w (by decide) (by decide) (fun h3 r3 => ⟨fun _ => hp h3 r3, fun q => absurd rfl q⟩)), fun q => absurd rfl q⟩)), fun q => absurd rfl q⟩)), fun q => absurd rfl q⟩)
theorem q_flash1 (r : RR dE ad ρ μ h) (w : WA ρ) (v : WV μ) {c n : Nat} (hc : c < μ 1 2 2) (hn : n < μ 1 3 2) (z : ¬ canFl μ c) {post : Int32 → Hp → Prop} (hp : ∀ h', RR dE ad ρ (up μ 98 0 0 2) h' → post (nI 0) h') : wp_X6_flash h (ad 8 0) (nI c) (nI n) post := by
  have b30 := v.2.2.2.2.1.2.1
  have b3 := (v.2.2.1 c).1
  have b9 := (v.2.2.1 c).2.2.2.2.2
  have hC : c < 30 := by omega
  unfold wp_X6_flash
  refine ⟨t_8 r w, q_car1 r w v hc (fun J hJ K hK => ⟨fun q => absurd q n10, fun _ => q_img1 r w v hn ⟨fun q => absurd q n10, fun _ => hJ _ (fun L hL M hM => ⟨fun q => absurd q n10, fun _ => ?_⟩)⟩⟩)⟩
  have no : M := hM (hL _ (fun N hN => ⟨fun q => absurd q n10, fun _ => ⟨fun _ => hN _ (q_wellN (k := 2) r w (by decide) (by decide) (fun h3 r3 => ⟨fun _ => hp h3 r3, fun q => absurd rfl q⟩)), fun q => absurd rfl q⟩⟩))
  refine ⟨_, r_8_12 r w, t_42 r w, c, rfl, by omega, by rw [n_42 r w]; exact hC, _, a_42 r w hC, fun q1 => ⟨_, r_8_13 r w, t_43 r w, c, rfl, by omega, by rw [n_43 r w]; exact hC, _, a_43 r w hC, fun _ => no, fun q5 => ?_⟩, fun _ => no⟩
  have e1 := (nI_eq (b := 1) (by omega) (by omega)).mp q1
  exact absurd ⟨e1, by
    by_cases y : 5 ≤ μ 2 c 9
    · exact y
    · exact absurd (nI_lt (b := 5) (by omega) (by omega)) q5⟩ z
theorem q_flash2 (r : RR dE ad ρ μ h) (w : WA ρ) (v : WV μ) {c n : Nat} (hc : c < μ 1 2 2) (hn : n < μ 1 3 2) (z : canFl μ c) {post : Int32 → Hp → Prop} (hp : ∀ h', RR dE ad ρ (up (flashS μ c n) 98 0 0 0) h' → post (nI (μ 2 c 5) - nI 1) h') : wp_X6_flash h (ad 8 0) (nI c) (nI n) post := by
  have b30 := v.2.2.2.2.1.2.1
  have b40 := v.2.2.2.2.1.2.2.1
  have b9 := (v.2.2.1 c).2.2.2.2.2
  obtain ⟨z1, z2⟩ := z
  have hC : c < 30 := by omega
  unfold wp_X6_flash
  refine ⟨t_8 r w, q_car1 r w v hc (fun J hJ K hK => ⟨fun q => absurd q n10, fun _ => q_img1 r w v hn ⟨fun q => absurd q n10, fun _ => hJ _ (fun L hL M hM => ⟨fun q => absurd q n10, fun _ => ?_⟩)⟩⟩)⟩
  refine ⟨_, r_8_12 r w, t_42 r w, c, rfl, by omega, by rw [n_42 r w]; exact hC, _, a_42 r w hC, fun q1 => ⟨_, r_8_13 r w, t_43 r w, c, rfl, by omega, by rw [n_43 r w]; exact hC, _, a_43 r w hC, fun q5 => absurd q5 (nI_nlt (b := 5) z2 (by omega)), fun q5 => hL _ (fun N hN => ⟨fun q => absurd q n10, fun _ => ⟨fun q => absurd q n10, fun _ => hN _ (q_well0 r w (fun h3 r3 => ⟨fun q => absurd q n10, fun _ => ?_⟩))⟩⟩)⟩, fun q => absurd (by rw [z1]; rfl) q⟩
  have m45 : hI h3 (ad 45 0) c = nI (μ 2 c 5) := by rw [a_45 r3 w hC, u98 (by decide)]
  refine ⟨t_8 r3 w, _, r_8_15 r3 w, t_45 r3 w, c, rfl, by omega, by rw [n_45 r3 w]; exact hC, _, m45, _, r_8_15 r3 w, t_45 r3 w, c, rfl, by omega, by rw [n_45 r3 w]; exact hC, fun h13 e13 => ?_⟩
  have r4 : RR dE ad ρ (up (up μ 98 0 0 0) 2 c 5 (n + 1)) h13 := by rw [e13, nI_1]; exact sa_45 r3 w
  refine ⟨_, r_8_16 r4 w, t_46 r4 w, c, rfl, by omega, by rw [n_46 r4 w]; exact hC, fun h18 e18 => ?_⟩
  have r5 : RR dE ad ρ (up (up (up μ 98 0 0 0) 2 c 5 (n + 1)) 2 c 6 0) h18 := by rw [e18]; exact sa_46 r4 w
  refine ⟨_, r_8_17 r5 w, t_47 r5 w, c, rfl, by omega, by rw [n_47 r5 w]; exact hC, fun h23 e23 => hp h23 ?_⟩
  have r6 : RR dE ad ρ (up (up (up (up μ 98 0 0 0) 2 c 5 (n + 1)) 2 c 6 0) 2 c 7 0) h23 := by rw [e23]; exact sa_47 r5 w
  refine r6.eqM (fun a b d t => ?_)
  simp only [flashS, up]
  repeat' split
  all_goals omega
/-! lot -/
theorem q_lotN1 (r : RR dE ad ρ μ h) (w : WA ρ) {x y z : Int32} (hx : NL x 10) {post : Int32 → Hp → Prop} (hp : ∀ h', RR dE ad ρ (up μ 98 0 0 1) h' → post (nI 0) h') : wp_X6_lot h (ad 8 0) x y z post := by
  unfold wp_X6_lot
  refine q_inB (a := 1) (b := 99) (fun J hJ K hK => ?_) (fun J hJ K hK => ?_)
  · have main : ∀ t, J t := fun t => hJ t (q_kind0 hx (fun L hL => ⟨fun _ => hL _ ⟨t_8 r w, q_wellN (k := 1) r w (by decide) (by decide) (fun h3 r3 => ⟨fun _ => hp h3 r3, fun q => absurd rfl q⟩)⟩, fun q => absurd rfl q⟩))
    exact ⟨fun _ => hK (main _), fun _ => q_inB (a := 1) (b := 50) ⟨fun _ => hK (main _), fun q => absurd rfl q⟩ ⟨fun q => absurd q n10, fun _ => main _⟩⟩
  · have main : ∀ t, J t := fun t => hJ t (q_kind0 hx (fun L hL => ⟨fun _ => hL _ ⟨t_8 r w, q_wellN (k := 1) r w (by decide) (by decide) (fun h3 r3 => ⟨fun _ => hp h3 r3, fun q => absurd rfl q⟩)⟩, fun q => absurd rfl q⟩))
    exact ⟨fun _ => hK (main _), fun _ => q_inB (a := 1) (b := 50) ⟨fun _ => hK (main _), fun q => absurd rfl q⟩ ⟨fun q => absurd q n10, fun _ => main _⟩⟩
theorem q_lotN2 (r : RR dE ad ρ μ h) (w : WA ρ) {k : Nat} {y z : Int32} (hk : k < 10) (hx : NR y 1 99 ∨ NR z 1 50) {post : Int32 → Hp → Prop} (hp : ∀ h', RR dE ad ρ (up μ 98 0 0 2) h' → post (nI 0) h') : wp_X6_lot h (ad 8 0) (nI k) y z post := by
  unfold wp_X6_lot
  rcases NR_or (a := 1) (b := 99) (by decide) (by decide) y with ⟨s, s1, hs, rfl⟩ | q1
  · refine q_in1 (a := 1) (b := 99) s1 hs (by omega) (fun J hJ K hK => ⟨fun q => absurd q n10, fun _ => ?_⟩)
    have hz : NR z 1 50 := hx.elim (fun y => absurd y (NR_no hs (by decide) s1)) id
    exact q_in0 (a := 1) (b := 50) hz ⟨fun _ => hK (hJ _ (q_kind1 hk (fun L hL => ⟨fun q => absurd q n10, fun _ => ⟨fun _ => hL _ ⟨t_8 r w, q_wellN (k := 2) r w (by decide) (by decide) (fun h3 r3 => ⟨fun _ => hp h3 r3, fun q => absurd rfl q⟩)⟩, fun q => absurd rfl q⟩⟩))), fun q => absurd rfl q⟩
  · exact q_in0 (a := 1) (b := 99) q1 (fun J hJ K hK => ⟨fun _ => hK (hJ _ (q_kind1 hk (fun L hL => ⟨fun q => absurd q n10, fun _ => ⟨fun _ => hL _ ⟨t_8 r w, q_wellN (k := 2) r w (by decide) (by decide) (fun h3 r3 => ⟨fun _ => hp h3 r3, fun q => absurd rfl q⟩)⟩, fun q => absurd rfl q⟩⟩))), fun q => absurd rfl q⟩)
theorem q_lotN3 (r : RR dE ad ρ μ h) (w : WA ρ) (v : WV μ) {k x u : Nat} (hk : k < 10) (x1 : 1 ≤ x) (x99 : x ≤ 99) (u1 : 1 ≤ u) (u50 : u ≤ 50) (hn : ¬ μ 1 1 2 < 40) {post : Int32 → Hp → Prop} (hp : ∀ h', RR dE ad ρ (up μ 98 0 0 3) h' → post (nI 0) h') : wp_X6_lot h (ad 8 0) (nI k) (nI x) (nI u) post := by
  have b40 := v.2.2.2.2.1.1
  have e40 : μ 1 1 2 = 40 := by omega
  unfold wp_X6_lot
  exact q_in1 (a := 1) (b := 99) x1 x99 (by omega) (fun J hJ K hK => ⟨fun q => absurd q n10, fun _ => q_in1 (a := 1) (b := 50) u1 u50 (by omega) ⟨fun q => absurd q n10, fun _ => hJ _ (q_kind1 hk (fun L hL => ⟨fun q => absurd q n10, fun _ => ⟨fun q => absurd q n10, fun _ => ⟨t_8 r w, _, m_5 r w, fun _ => hL _ ⟨t_8 r w, q_wellN (k := 3) r w (by decide) (by decide) (fun h3 r3 => ⟨fun _ => hp h3 r3, fun q => absurd rfl q⟩)⟩, fun q => absurd (by rw [e40]; rfl) q⟩⟩⟩))⟩⟩)
theorem lS_eq {μ : St} (m : WW μ) {k x u : Nat} (a b d : Nat) (t : toldM a b d) : lotS μ k x u a b d = up (up (up (up μ 5 (μ 1 1 2) 1 k) 5 (μ 1 1 2) 2 x) 5 (μ 1 1 2) 3 u) 1 1 2 (μ 1 1 2 + 1) a b d := by
  unfold toldM at t
  by_cases a1 : a = 1
  · obtain ⟨b3, rfl⟩ : b ≤ 3 ∧ d = 2 := by omega
    subst a1
    rw [lS1]
    by_cases b1 : b = 1
    · simp [up, b1]
    · simp [up, b1]
  · by_cases a5 : a = 5
    · subst a5
      have d0 : d ≠ 0 := by omega
      rw [lS5]
      by_cases e : b = μ 1 1 2
      · rw [if_pos e]
        have e4 : μ 5 b 4 = 0 := m.1.2.2.2.2.1 b 4 (by omega)
        by_cases d1 : d = 1
        · simp [up, e, d1]
        · by_cases d2 : d = 2
          · simp [up, e, d2]
          · by_cases d3 : d = 3
            · simp [up, e, d3]
            · by_cases d4 : d = 4
              · rw [e] at e4
                simp [up, e, d4, e4]
              · simp [up, d0, d1, d2, d3, d4]
      · rw [if_neg e]
        simp [up, e]
    · rw [lSx _ _ _ _ _ _ _ ⟨a1, a5, by omega, by omega⟩]
      simp [up, a1, a5]
theorem q_lotN4 (r : RR dE ad ρ μ h) (w : WA ρ) (m : WW μ) {k x u : Nat} (hk : k < 10) (x1 : 1 ≤ x) (x99 : x ≤ 99) (u1 : 1 ≤ u) (u50 : u ≤ 50) (hn : μ 1 1 2 < 40) {post : Int32 → Hp → Prop} (hp : ∀ h', RR dE ad ρ (up (lotS μ k x u) 98 0 0 0) h' → post (nI (μ 1 1 2)) h') : wp_X6_lot h (ad 8 0) (nI k) (nI x) (nI u) post := by
  have e := fun a b d t => lS_eq m (k := k) (x := x) (u := u) a b d t
  unfold wp_X6_lot
  refine q_in1 (a := 1) (b := 99) x1 x99 (by omega) (fun J hJ K hK => ⟨fun q => absurd q n10, fun _ => q_in1 (a := 1) (b := 50) u1 u50 (by omega) ⟨fun q => absurd q n10, fun _ => hJ _ (q_kind1 hk (fun L hL => ⟨fun q => absurd q n10, fun _ => ⟨fun q => absurd q n10, fun _ => ⟨t_8 r w, _, m_5 r w, fun q => absurd ((nI_eq (b := 40) (by omega) (by omega)).mp q) (by omega), fun _ => hL _ ⟨t_8 r w, q_well0 r w (fun h3 r3 => ⟨fun q => absurd q n10, fun _ => ?_⟩)⟩⟩⟩⟩))⟩⟩)
  generalize eN : μ 1 1 2 = n at *
  have m5 : hI h3 (ad 8 0) 5 = nI n := by rw [m_5 r3 w, u98 (by decide), eN]
  refine ⟨t_8 r3 w, _, r_8_6 r3 w, _, m5, t_36 r3 w, n, rfl, by omega, by rw [n_36 r3 w]; exact hn, fun h11 e11 => ?_⟩
  have r4 : RR dE ad ρ (up (up μ 98 0 0 0) 5 n 1 k) h11 := by rw [e11]; exact sa_36 r3 w
  have m5 : hI h11 (ad 8 0) 5 = nI n := by rw [m_5 r4 w, up_ne (fun z => by cases z.1), u98 (by decide), eN]
  refine ⟨_, r_8_7 r4 w, _, m5, t_37 r4 w, n, rfl, by omega, by rw [n_37 r4 w]; exact hn, fun h17 e17 => ?_⟩
  have r5 : RR dE ad ρ (up (up (up μ 98 0 0 0) 5 n 1 k) 5 n 2 x) h17 := by rw [e17]; exact sa_37 r4 w
  have m5 : hI h17 (ad 8 0) 5 = nI n := by rw [m_5 r5 w, up_ne (fun z => by cases z.1), up_ne (fun z => by cases z.1), u98 (by decide), eN]
  refine ⟨_, r_8_8 r5 w, _, m5, t_38 r5 w, n, rfl, by omega, by rw [n_38 r5 w]; exact hn, fun h23 e23 => ?_⟩
  have r6 : RR dE ad ρ (up (up (up (up μ 98 0 0 0) 5 n 1 k) 5 n 2 x) 5 n 3 u) h23 := by rw [e23]; exact sa_38 r5 w
  have m5 : hI h23 (ad 8 0) 5 = nI n := by rw [m_5 r6 w, up_ne (fun z => by cases z.1), up_ne (fun z => by cases z.1), up_ne (fun z => by cases z.1), u98 (by decide), eN]
  refine ⟨_, m5, fun h26 e26 => ?_⟩
  have r7 : RR dE ad ρ (up (up (up (up (up μ 98 0 0 0) 5 n 1 k) 5 n 2 x) 5 n 3 u) 1 1 2 (n + 1)) h26 := by rw [e26, nI_1]; exact sn_5 r6 w
  have m5 : hI h26 (ad 8 0) 5 = nI (n + 1) := by rw [m_5 r7 w, up_eq]
  refine ⟨_, m5, ?_⟩
  have en : nI (n + 1) - 1 = nI n := nI_pred n
  rw [en]
  refine hp h26 (r7.eqM (fun a b d t => ?_))
  have e := e a b d t
  unfold up at e ⊢
  rw [e]
  repeat' split
  all_goals omega
/-! order -/
theorem q_order1 (r : RR dE ad ρ μ h) (w : WA ρ) {x : Int32} (hx : NR x 0 255) {post : Int32 → Hp → Prop} (hp : ∀ h', RR dE ad ρ (up μ 98 0 0 1) h' → post (nI 0) h') : wp_X6_order h (ad 8 0) x post := by
  unfold wp_X6_order
  exact q_in0 (a := 0) (b := 255) hx (fun J hJ => ⟨fun _ => hJ _ ⟨t_8 r w, q_wellN (k := 1) r w (by decide) (by decide) (fun h3 r3 => ⟨fun _ => hp h3 r3, fun q => absurd rfl q⟩)⟩, fun q => absurd rfl q⟩)
theorem q_order2 (r : RR dE ad ρ μ h) (w : WA ρ) (v : WV μ) {o : Nat} (ho : o ≤ 255) (hn : ¬ μ 1 2 2 < 30) {post : Int32 → Hp → Prop} (hp : ∀ h', RR dE ad ρ (up μ 98 0 0 2) h' → post (nI 0) h') : wp_X6_order h (ad 8 0) (nI o) post := by
  have b30 := v.2.2.2.2.1.2.1
  have e30 : μ 1 2 2 = 30 := by omega
  unfold wp_X6_order
  exact q_in1 (a := 0) (b := 255) (Nat.zero_le _) ho (by omega) (fun J hJ => ⟨fun q => absurd q n10, fun _ => ⟨t_8 r w, _, m_10 r w, fun _ => hJ _ ⟨t_8 r w, q_wellN (k := 2) r w (by decide) (by decide) (fun h3 r3 => ⟨fun _ => hp h3 r3, fun q => absurd rfl q⟩)⟩, fun q => absurd (by rw [e30]; rfl) q⟩⟩)
theorem oS_eq {μ : St} (m : WW μ) {o : Nat} (a b d : Nat) (t : toldM a b d) : orderS μ o a b d = up (up (up μ 2 (μ 1 2 2) 1 o) 2 (μ 1 2 2) 3 0) 1 2 2 (μ 1 2 2 + 1) a b d := by
  unfold toldM at t
  by_cases a1 : a = 1
  · obtain ⟨b3, rfl⟩ : b ≤ 3 ∧ d = 2 := by omega
    subst a1
    rw [oS1]
    by_cases b1 : b = 2
    · simp [up, b1]
    · simp [up, b1]
  · by_cases a5 : a = 2
    · subst a5
      have d0 : d ≠ 0 := by omega
      have d4 : d ≠ 4 := by omega
      rw [oS2]
      by_cases e : b = μ 1 2 2
      · rw [if_pos e]
        have ez : ∀ j, μ 2 (μ 1 2 2) j = 0 := fun j => (m.1.2.2.2.2.2.1 _ j (Nat.le_refl _)).1
        by_cases d1 : d = 1
        · simp [up, e, d1]
        · by_cases d3 : d = 3
          · simp [up, e, d3]
          · by_cases dx : d = 3 ∨ d = 5 ∨ d = 6 ∨ d = 7 ∨ d = 8
            · rw [if_neg d0, if_neg d1, if_neg d4, if_pos dx]
              simp [up, e, d1, ez]
            · rw [if_neg d0, if_neg d1, if_neg d4, if_neg dx]
              simp [up, d1, d3]
      · rw [if_neg e]
        simp [up, e]
    · rw [oSx _ _ _ _ _ ⟨a1, a5, by omega, by omega, by omega⟩]
      simp [up, a1, a5]
theorem q_order3 (r : RR dE ad ρ μ h) (w : WA ρ) (m : WW μ) {o : Nat} (ho : o ≤ 255) (hn : μ 1 2 2 < 30) {post : Int32 → Hp → Prop} (hp : ∀ h', RR dE ad ρ (up (orderS μ o) 98 0 0 0) h' → post (nI (μ 1 2 2)) h') : wp_X6_order h (ad 8 0) (nI o) post := by
  have e := fun a b d t => oS_eq m (o := o) a b d t
  unfold wp_X6_order
  refine q_in1 (a := 0) (b := 255) (Nat.zero_le _) ho (by omega) (fun J hJ => ⟨fun q => absurd q n10, fun _ => ⟨t_8 r w, _, m_10 r w, fun q => absurd ((nI_eq (b := 30) (by omega) (by omega)).mp q) (by omega), fun _ => hJ _ ⟨t_8 r w, q_well0 r w (fun h3 r3 => ⟨fun q => absurd q n10, fun _ => ?_⟩)⟩⟩⟩)
  generalize eN : μ 1 2 2 = n at *
  have m5 : hI h3 (ad 8 0) 10 = nI n := by rw [m_10 r3 w, u98 (by decide), eN]
  refine ⟨t_8 r3 w, _, r_8_11 r3 w, _, m5, t_41 r3 w, n, rfl, by omega, by rw [n_41 r3 w]; exact hn, fun h11 e11 => ?_⟩
  have r4 : RR dE ad ρ (up (up μ 98 0 0 0) 2 n 1 o) h11 := by rw [e11]; exact sa_41 r3 w
  have m5 : hI h11 (ad 8 0) 10 = nI n := by rw [m_10 r4 w, up_ne (fun z => by cases z.1), u98 (by decide), eN]
  refine ⟨_, r_8_12 r4 w, _, m5, t_42 r4 w, n, rfl, by omega, by rw [n_42 r4 w]; exact hn, fun h17 e17 => ?_⟩
  have r5 : RR dE ad ρ (up (up (up μ 98 0 0 0) 2 n 1 o) 2 n 3 0) h17 := by rw [e17]; exact sa_42 r4 w
  have m5 : hI h17 (ad 8 0) 10 = nI n := by rw [m_10 r5 w, up_ne (fun z => by cases z.1), up_ne (fun z => by cases z.1), u98 (by decide), eN]
  refine ⟨_, m5, fun h26 e26 => ?_⟩
  have r7 : RR dE ad ρ (up (up (up (up μ 98 0 0 0) 2 n 1 o) 2 n 3 0) 1 2 2 (n + 1)) h26 := by rw [e26, nI_1]; exact sn_10 r5 w
  have m5 : hI h26 (ad 8 0) 10 = nI (n + 1) := by rw [m_10 r7 w, up_eq]
  refine ⟨_, m5, ?_⟩
  have en : nI (n + 1) - 1 = nI n := nI_pred n
  rw [en]
  refine hp h26 (r7.eqM (fun a b d t => ?_))
  have e := e a b d t
  unfold up at e ⊢
  rw [e]
  repeat' split
  all_goals omega
/-! build -/
theorem q_build0 (r : RR dE ad ρ μ h) (w : WA ρ) (v : WV μ) {x : Int32} (hx : NL x (μ 1 2 2)) {post : Int32 → Hp → Prop} (hp : ∀ h', RR dE ad ρ (up μ 98 0 0 1) h' → post (nI 0) h') : wp_X6_build h (ad 8 0) x post := by
  unfold wp_X6_build
  exact ⟨t_8 r w, q_car0 r w v hx (fun J hJ => ⟨fun _ => hJ _ _ (fun K hK => ⟨fun _ => hK _ ⟨t_8 r w, q_wellN (k := 1) r w (by decide) (by decide) (fun h3 r3 => ⟨fun _ => hp h3 r3, fun q => absurd rfl q⟩)⟩, fun q => absurd rfl q⟩), fun q => absurd rfl q⟩)⟩
theorem iS_eq {μ : St} {c : Nat} (a b d : Nat) (t : toldM a b d) : imgS μ c a b d = up (imgV μ c (μ 1 3 2) 10 μ) 1 3 2 (μ 1 3 2 + 1) a b d := by
  unfold toldM at t
  by_cases a1 : a = 1
  · obtain ⟨b3, rfl⟩ : b ≤ 3 ∧ d = 2 := by omega
    subst a1
    rw [iS1]
    by_cases b1 : b = 3
    · simp [up, b1]
    · rw [if_neg b1, up_ne (fun z => b1 z.2.1), iVx _ _ _ _ _ _ _ _ (by decide)]
  · rw [up_ne (fun z => a1 z.1)]
    by_cases a5 : a = 19
    · subst a5
      rw [iS19, iV19]
    · rw [iSx _ _ _ _ _ ⟨a1, by omega, by omega, by omega, by omega, a5⟩, iVx _ _ _ _ _ _ _ _ a5]
theorem q_build (r : RR dE ad ρ μ h) (w : WA ρ) (m : WW μ) (wd : WD μ) {c : Nat} (hc : c < μ 1 2 2) {post : Int32 → Hp → Prop} (h2 : ∀ i, i < μ 1 3 2 → built μ i c = true → ∀ h', RR dE ad ρ (up μ 98 0 0 0) h' → post (nI i) h') (h3 : (∀ n, n < μ 1 3 2 → built μ n c = false) → ¬ μ 1 3 2 < 40 → ∀ h', RR dE ad ρ (up μ 98 0 0 2) h' → post (nI 0) h') (h4 : (∀ n, n < μ 1 3 2 → built μ n c = false) → μ 1 3 2 < 40 → ∀ h', RR dE ad ρ (up (imgS μ c) 98 0 0 0) h' → post (nI (μ 1 3 2)) h') : wp_X6_build h (ad 8 0) (nI c) post := by
  have v := m.1.2.1
  have b30 := v.2.2.2.2.1.2.1
  have b40 := v.2.2.2.2.1.2.2.1
  have hC : c < 30 := by omega
  have e := fun a b d t => iS_eq (μ := μ) (c := c) a b d t
  unfold wp_X6_build
  refine ⟨t_8 r w, q_car1 r w v hc (fun J hJ => ⟨fun q => absurd q n10, fun _ => q_lay r w v hC (fun h1 r1 hv K hK => ?_)⟩)⟩
  have same : ∀ i j, i < μ 1 3 2 → j < μ 1 3 2 → built μ i c = true → built μ j c = true → i = j := by
    intro i j hi hj bi bj
    refine wd i j hi hj (fun k hk => ?_)
    have g : ∀ n, built μ n c = true → μ 19 n k = sv μ c k := by
      intro n bn
      by_cases z : μ 19 n k = sv μ c k
      · exact z
      · have : false = built μ n c := all10_f hk (by simp [z])
        rw [← this] at bn
        cases bn
    rw [g i bi, g j bj]
  refine lpA (J := K) hK (μ 1 3 2) (fun i x => (x = nI NN ∧ ∀ n, n < i → built μ n c = false) ∨ (∃ f, x = nI f ∧ f < i ∧ built μ f c = true)) (Or.inl ⟨by decide, fun n hn => absurd hn (Nat.not_lt_zero n)⟩) (fun i x hi ei hs => ?_)
  refine ⟨t_8 r1 w, _, m_23 r1 w, fun q => ?_, fun q => ?_⟩
  · have := (nI_leI (by omega) (by omega)).mp q
    have : i = μ 1 3 2 := by omega
    subst this
    refine hJ _ _ (fun L hL => ⟨fun q => absurd q n10, fun _ M hM => ?_⟩)
    rcases ei with ⟨rfl, ei⟩ | ⟨f, rfl, hf, bf⟩
    · refine ⟨fun _ => ⟨t_8 r1 w, _, m_23 r1 w, fun q40 => ?_, fun q40 => hM (hL _ ⟨t_8 r1 w, ?_⟩)⟩, fun q => absurd (by decide) q⟩
      · have e40 := (nI_eq (b := 40) (by omega) (by omega)).mp q40
        exact hL _ ⟨t_8 r1 w, q_wellN (k := 2) r1 w (by decide) (by decide) (fun h3' r3 => ⟨fun _ => h3 ei (by omega) h3' r3, fun q => absurd rfl q⟩)⟩
      · have hn : μ 1 3 2 < 40 := by
          by_cases z : μ 1 3 2 < 40
          · exact z
          · have e40 : μ 1 3 2 = 40 := by omega
            exact absurd (by rw [e40]; rfl) q40
        have h4 := h4 ei hn
        generalize eN : μ 1 3 2 = n at *
        unfold wp_X6_goesWell
        refine ⟨t_8 r1 w, fun h5 e5 N hN => ⟨fun _ => hN _ ⟨Or.inr rfl, fun q => absurd q n10, fun _ => ⟨fun _ => ?_, fun q => absurd (by decide) q⟩⟩, fun q => absurd rfl q⟩⟩
        have r5 : RR dE ad ρ (up μ 98 0 0 0) h5 := by rw [e5]; exact sn_0 r1 w
        have ne : ad 56 0 ≠ ad 8 0 := r1.ne (w.2.2.2.1 56 rfl).1 w.1.2.1 (by decide)
        have hv5 : ∀ k, k < 10 → hI h5 (ad 56 0) k = nI (sv μ c k) := fun k hk => by rw [e5, hI_sI, if_neg (fun z => ne z.1)]; exact hv k hk
        have ne54 : ad 56 0 ≠ ad 54 0 := r1.ne (w.2.2.2.1 56 rfl).1 (w.2.2.2.1 54 rfl).1 (by decide)
        intro P hP
        refine lpA (J := fun x v => P v x) (x := h5) (fun x v hb => hP v x hb) 10 (fun k x => RR dE ad ρ (imgV μ c n k (up μ 98 0 0 0)) x ∧ ∀ j, j < 10 → hI x (ad 56 0) j = nI (sv μ c j)) ⟨r5, hv5⟩ (fun k x hk ek hsk => ?_)
        obtain ⟨rk, hvk⟩ := ek
        have m23 : hI x (ad 8 0) 23 = nI n := by rw [m_23 rk w, iVx _ _ _ _ _ _ _ _ (by decide), u98 (by decide), eN]
        by_cases hk2 : k < 10
        · refine ⟨fun q => absurd q (nI_ge (b := 10) hk2 (by omega)), fun _ => ⟨t_8 rk w, _, r_8_24 rk w, _, m23, _, r_8_26 rk w, t_56 rk w, k, rfl, by omega, by rw [n_56 rk w]; exact hk2, _, hvk k hk2, t_54 rk w, 10 * n + k, i10 n k, by omega, by rw [n_54 rk w]; omega, fun h22 e22 => ?_⟩⟩
          have := hsk h22 hk2 ⟨by rw [e22]; exact sa_54 rk w hk2, fun j hj => by rw [e22, hI_sI, if_neg (fun z => ne54 z.1)]; exact hvk j hj⟩
          rw [← nI_1 k] at this
          exact this
        · have : k = 10 := by omega
          subst this
          refine ⟨fun _ => ⟨t_8 rk w, _, m23, fun h10 e10 => ?_⟩, fun q => absurd (nI_le (Nat.le_refl 10) (by omega)) q⟩
          have r7 : RR dE ad ρ (up (imgV μ c n 10 (up μ 98 0 0 0)) 1 3 2 (n + 1)) h10 := by rw [e10, nI_1]; exact sn_23 rk w
          have m5 : hI h10 (ad 8 0) 23 = nI (n + 1) := by rw [m_23 r7 w, up_eq]
          refine ⟨_, m5, ?_⟩
          have en : nI (n + 1) - 1 = nI n := nI_pred n
          rw [en]
          refine h4 h10 (r7.eqM (fun a b d t => ?_))
          have e := e a b d t
          by_cases a98 : a = 98 ∧ b = 0 ∧ d = 0
          · obtain ⟨rfl, rfl, rfl⟩ := a98
            rw [up_eq, up_ne (fun z => by cases z.1), iVx _ _ _ _ _ _ _ _ (by decide), up_eq]
          · rw [up_ne a98, e]
            by_cases a1 : a = 1 ∧ b = 3 ∧ d = 2
            · obtain ⟨rfl, rfl, rfl⟩ := a1
              rw [up_eq, up_eq]
            · rw [up_ne a1, up_ne a1]
              by_cases a19 : a = 19
              · subst a19
                rw [iV19, iV19, u98 (by decide)]
              · rw [iVx _ _ _ _ _ _ _ _ a19, iVx _ _ _ _ _ _ _ _ a19, up_ne a98]
    · refine ⟨fun q => absurd q (nI_nNN (by omega)), fun _ => hM (hL _ ⟨t_8 r1 w, q_well0 r1 w (fun h5 r5 => ⟨fun q => absurd q n10, fun _ => ⟨fun q => absurd q (nI_nNN (by omega)), fun _ => h2 f hf bf h5 r5⟩⟩)⟩)⟩
  · have hi2 : i < μ 1 3 2 := by
      by_cases z : i < μ 1 3 2
      · exact z
      · exact absurd (nI_le (by omega) (by omega)) q
    refine q_built r1 w v (by omega) hv (fun b hb L hL => ?_)
    have nx : ∀ x2, ((x2 = nI NN ∧ ∀ n, n < i + 1 → built μ n c = false) ∨ (∃ f, x2 = nI f ∧ f < i + 1 ∧ built μ f c = true)) → L x2 := fun x2 y => hL _ (by rw [nI_1]; exact hs x2 hi2 y)
    cases b with
    | false =>
      refine ⟨fun _ => nx _ ?_, fun q => absurd rfl q⟩
      rcases ei with ⟨rfl, ei⟩ | ⟨f, rfl, hf, bf⟩
      · exact Or.inl ⟨rfl, fun n hn => by
          by_cases z : n = i
          · rw [z]; exact hb.symm
          · exact ei n (by omega)⟩
      · exact Or.inr ⟨f, rfl, by omega, bf⟩
    | true => exact ⟨fun q => absurd q n10, fun _ => nx _ (Or.inr ⟨i, rfl, by omega, hb.symm⟩)⟩
end MC
