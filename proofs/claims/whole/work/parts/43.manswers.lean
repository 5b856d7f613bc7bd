/-! the Model's answers -/
theorem u98 {σ : St} {k a b c : Nat} (h : a ≠ 98) : up σ 98 0 0 k a b c = σ a b c := up_ne (fun z => h z.1)
theorem need98 {σ : St} {k : Nat} : need (up σ 98 0 0 k) = need σ := by
  funext c j
  simp only [need, u98 (show 2 ≠ 98 by decide), u98 (show 4 ≠ 98 by decide)]
theorem good98 {σ : St} {k : Nat} : good (up σ 98 0 0 k) = good σ := by
  funext c j
  simp only [good, u98 (show 24 ≠ 98 by decide), u98 (show 5 ≠ 98 by decide)]
theorem lack98 {σ : St} {k : Nat} : lack (up σ 98 0 0 k) = lack σ := by
  funext c j
  simp only [lack, need98, good98]
theorem sv98 {σ : St} {k : Nat} : sv (up σ 98 0 0 k) = sv σ := by
  funext c j
  simp only [sv, u98 (show 24 ≠ 98 by decide), u98 (show 5 ≠ 98 by decide), u98 (show 4 ≠ 98 by decide)]
theorem built98 {σ : St} {k : Nat} : built (up σ 98 0 0 k) = built σ := by
  funext n c
  simp only [built, sv98, u98 (show 19 ≠ 98 by decide)]
theorem fits98 {σ : St} {k : Nat} : fitsS (up σ 98 0 0 k) = fitsS σ := by
  funext c
  simp only [fitsS, sgnd, built98, lackSw, lack98, u98 (show 2 ≠ 98 by decide), u98 (show 3 ≠ 98 by decide), u98 (show 4 ≠ 98 by decide)]
theorem recU98 {σ : St} {k : Nat} : recU (up σ 98 0 0 k) = recU σ := by
  funext c
  simp only [recU, u98 (show 24 ≠ 98 by decide), u98 (show 5 ≠ 98 by decide)]
theorem WW98 {σ : St} (w : WW σ) {k : Nat} : WW (up σ 98 0 0 k) := WW_up w (by simp [okU]) (by decide)
section MA
variable {dE : Nat} {ad : Nat → Nat → Nat} {ρ μ : St} {h : Hp}
theorem q_inB {x : Int32} {a b : Nat} {post : Int32 → Prop} (h0 : post (nI 0)) (h1 : post (nI 1)) : wp_X6_in h x (nI a) (nI b) post := by
  unfold wp_X6_in
  exact fun J hJ K hK => ⟨fun _ => hK (hJ _ ⟨Or.inl rfl, h0⟩), fun _ => ⟨fun _ => hK (hJ _ ⟨Or.inl rfl, h0⟩), fun _ => hJ _ ⟨Or.inr rfl, h1⟩⟩⟩
/-! numbers -/
theorem q_takts (r : RR dE ad ρ μ h) (w : WA ρ) {post : Int32 → Hp → Prop} (hp : ∀ h', RR dE ad ρ (up μ 98 0 0 0) h' → post (nI (μ 7 0 7)) h') : wp_X6_takts h (ad 8 0) post := by
  unfold wp_X6_takts
  refine ⟨t_8 r w, fun h2 e2 => ?_⟩
  have r2 : RR dE ad ρ (up μ 98 0 0 0) h2 := by rw [e2]; exact sn_0 r w
  exact ⟨_, m_27 r2 w, by rw [u98 (by decide)]; exact hp h2 r2⟩
theorem q_scrapped (r : RR dE ad ρ μ h) (w : WA ρ) {post : Int32 → Hp → Prop} (hp : ∀ h', RR dE ad ρ (up μ 98 0 0 0) h' → post (nI (μ 7 0 8)) h') : wp_X6_scrapped h (ad 8 0) post := by
  unfold wp_X6_scrapped
  refine ⟨t_8 r w, fun h2 e2 => ?_⟩
  have r2 : RR dE ad ρ (up μ 98 0 0 0) h2 := by rw [e2]; exact sn_0 r w
  exact ⟨_, m_28 r2 w, by rw [u98 (by decide)]; exact hp h2 r2⟩
theorem q_failed (r : RR dE ad ρ μ h) (w : WA ρ) {post : Int32 → Hp → Prop} (hp : ∀ h', RR dE ad ρ (up μ 98 0 0 0) h' → post (nI (μ 7 0 9)) h') : wp_X6_failed h (ad 8 0) post := by
  unfold wp_X6_failed
  refine ⟨t_8 r w, fun h2 e2 => ?_⟩
  have r2 : RR dE ad ρ (up μ 98 0 0 0) h2 := by rw [e2]; exact sn_0 r w
  exact ⟨_, m_29 r2 w, by rw [u98 (by decide)]; exact hp h2 r2⟩
theorem q_images (r : RR dE ad ρ μ h) (w : WA ρ) {post : Int32 → Hp → Prop} (hp : ∀ h', RR dE ad ρ (up μ 98 0 0 0) h' → post (nI (μ 1 3 2)) h') : wp_X6_images h (ad 8 0) post := by
  unfold wp_X6_images
  refine ⟨t_8 r w, fun h2 e2 => ?_⟩
  have r2 : RR dE ad ρ (up μ 98 0 0 0) h2 := by rw [e2]; exact sn_0 r w
  exact ⟨_, m_23 r2 w, by rw [u98 (by decide)]; exact hp h2 r2⟩
/-! of a car -/
theorem q_needs0 (r : RR dE ad ρ μ h) (w : WA ρ) (v : WV μ) {x : Int32} (hx : NL x (μ 1 2 2)) {post : Int32 → Hp → Prop} (hp : ∀ h', RR dE ad ρ (up μ 98 0 0 1) h' → post (nI 0) h') : wp_X6_needs h (ad 8 0) x post := by
  unfold wp_X6_needs
  exact ⟨t_8 r w, q_car0 r w v hx (fun J hJ => ⟨fun _ => hJ _ (q_wellN (k := 1) r w (by decide) (by decide) (fun h3 r3 => ⟨fun _ => hp h3 r3, fun q => absurd rfl q⟩)), fun q => absurd rfl q⟩)⟩
theorem q_lacks0 (r : RR dE ad ρ μ h) (w : WA ρ) (v : WV μ) {x : Int32} (hx : NL x (μ 1 2 2)) {post : Int32 → Hp → Prop} (hp : ∀ h', RR dE ad ρ (up μ 98 0 0 1) h' → post (nI 0) h') : wp_X6_lacks h (ad 8 0) x post := by
  unfold wp_X6_lacks
  exact ⟨t_8 r w, q_car0 r w v hx (fun J hJ => ⟨fun _ => hJ _ (q_wellN (k := 1) r w (by decide) (by decide) (fun h3 r3 => fun K hK => ⟨fun _ => hK _ (hp h3 r3), fun q => absurd rfl q⟩)), fun q => absurd rfl q⟩)⟩
theorem q_imageOf0 (r : RR dE ad ρ μ h) (w : WA ρ) (v : WV μ) {x : Int32} (hx : NL x (μ 1 2 2)) {post : Int32 → Hp → Prop} (hp : ∀ h', RR dE ad ρ (up μ 98 0 0 1) h' → post (nI 0) h') : wp_X6_imageOf h (ad 8 0) x post := by
  unfold wp_X6_imageOf
  exact ⟨t_8 r w, q_car0 r w v hx (fun J hJ => ⟨fun _ => hJ _ (q_wellN (k := 1) r w (by decide) (by decide) (fun h3 r3 => fun K hK => ⟨fun _ => hK _ (hp h3 r3), fun q => absurd rfl q⟩)), fun q => absurd rfl q⟩)⟩
theorem q_isFit0 (r : RR dE ad ρ μ h) (w : WA ρ) (v : WV μ) {x : Int32} (hx : NL x (μ 1 2 2)) {post : Int32 → Hp → Prop} (hp : ∀ h', RR dE ad ρ (up μ 98 0 0 1) h' → post (nI 0) h') : wp_X6_isFit h (ad 8 0) x post := by
  unfold wp_X6_isFit
  exact ⟨t_8 r w, q_car0 r w v hx (fun J hJ => ⟨fun _ => hJ _ (q_wellN (k := 1) r w (by decide) (by decide) (fun h3 r3 => fun K hK L hL => ⟨fun _ => hL h3 (hK _ _ ⟨Or.inl rfl, hp h3 r3⟩), fun q => absurd rfl q⟩)), fun q => absurd rfl q⟩)⟩
theorem q_isTested0 (r : RR dE ad ρ μ h) (w : WA ρ) (v : WV μ) {x : Int32} (hx : NL x (μ 1 2 2)) {post : Int32 → Hp → Prop} (hp : ∀ h', RR dE ad ρ (up μ 98 0 0 1) h' → post (nI 0) h') : wp_X6_isTested h (ad 8 0) x post := by
  unfold wp_X6_isTested
  exact ⟨t_8 r w, q_car0 r w v hx (fun J hJ => ⟨fun _ => hJ _ (q_wellN (k := 1) r w (by decide) (by decide) (fun h3 r3 => fun K hK L hL => ⟨fun _ => hL (hK _ ⟨Or.inl rfl, hp h3 r3⟩), fun q => absurd rfl q⟩)), fun q => absurd rfl q⟩)⟩
theorem q_whereIs0 (r : RR dE ad ρ μ h) (w : WA ρ) (v : WV μ) {x : Int32} (hx : NL x (μ 1 2 2)) {post : Int32 → Hp → Prop} (hp : ∀ h', RR dE ad ρ (up μ 98 0 0 1) h' → post (nI 0) h') : wp_X6_whereIs h (ad 8 0) x post := by
  unfold wp_X6_whereIs
  exact ⟨t_8 r w, q_car0 r w v hx (fun J hJ => ⟨fun _ => hJ _ (q_wellN (k := 1) r w (by decide) (by decide) (fun h3 r3 => fun K hK => ⟨fun _ => hK _ (hp h3 r3), fun q => absurd rfl q⟩)), fun q => absurd rfl q⟩)⟩
theorem q_stationOf0 (r : RR dE ad ρ μ h) (w : WA ρ) (v : WV μ) {x : Int32} (hx : NL x (μ 1 2 2)) {post : Int32 → Hp → Prop} (hp : ∀ h', RR dE ad ρ (up μ 98 0 0 1) h' → post (nI 0) h') : wp_X6_stationOf h (ad 8 0) x post := by
  unfold wp_X6_stationOf
  exact ⟨t_8 r w, q_car0 r w v hx (fun J hJ => ⟨fun _ => hJ _ (q_wellN (k := 1) r w (by decide) (by decide) (fun h3 r3 => ⟨fun _ => hp h3 r3, fun q => absurd rfl q⟩)), fun q => absurd rfl q⟩)⟩
theorem q_units0 (r : RR dE ad ρ μ h) (w : WA ρ) (v : WV μ) {x : Int32} (hx : NL x (μ 1 1 2)) {post : Int32 → Hp → Prop} (hp : ∀ h', RR dE ad ρ (up μ 98 0 0 1) h' → post (nI 0) h') : wp_X6_units h (ad 8 0) x post := by
  unfold wp_X6_units
  exact ⟨t_8 r w, q_lot0 r w v hx (fun J hJ => ⟨fun _ => hJ _ (q_wellN (k := 1) r w (by decide) (by decide) (fun h3 r3 => fun K hK => ⟨fun _ => hK _ (hp h3 r3), fun q => absurd rfl q⟩)), fun q => absurd rfl q⟩)⟩

theorem q_units1 (r : RR dE ad ρ μ h) (w : WA ρ) (v : WV μ) {l : Nat} (hl : l < μ 1 1 2) {post : Int32 → Hp → Prop} (hp : ∀ h', RR dE ad ρ (up μ 98 0 0 0) h' → post (nI (μ 5 l 3)) h') : wp_X6_units h (ad 8 0) (nI l) post := by
  have b := v.2.2.2.2.1.1
  unfold wp_X6_units
  refine ⟨t_8 r w, q_lot1 r w v hl (fun J hJ => ⟨fun q => absurd q n10, fun _ => hJ _ (q_well0 r w (fun h3 r3 K hK => ⟨fun q => absurd q n10, fun _ => ?_⟩))⟩)⟩
  refine ⟨t_8 r3 w, _, r_8_8 r3 w, t_38 r3 w, l, rfl, by omega, by rw [n_38 r3 w]; omega, _, a_38 r3 w (by omega), hK _ ?_⟩
  rw [u98 (by decide)]
  exact hp h3 r3
theorem q_imageOf1 (r : RR dE ad ρ μ h) (w : WA ρ) (v : WV μ) {c : Nat} (hc : c < μ 1 2 2) {post : Int32 → Hp → Prop} (hp : ∀ h', RR dE ad ρ (up μ 98 0 0 0) h' → post (nI (μ 2 c 5) - nI 1) h') : wp_X6_imageOf h (ad 8 0) (nI c) post := by
  have b := v.2.2.2.2.1.2.1
  unfold wp_X6_imageOf
  refine ⟨t_8 r w, q_car1 r w v hc (fun J hJ => ⟨fun q => absurd q n10, fun _ => hJ _ (q_well0 r w (fun h3 r3 K hK => ⟨fun q => absurd q n10, fun _ => ?_⟩))⟩)⟩
  refine ⟨t_8 r3 w, _, r_8_15 r3 w, t_45 r3 w, c, rfl, by omega, by rw [n_45 r3 w]; omega, _, a_45 r3 w (by omega), hK _ ?_⟩
  rw [u98 (by decide)]
  exact hp h3 r3
theorem q_whereIs1 (r : RR dE ad ρ μ h) (w : WA ρ) (v : WV μ) {c : Nat} (hc : c < μ 1 2 2) {post : Int32 → Hp → Prop} (hp : ∀ h', RR dE ad ρ (up μ 98 0 0 0) h' → post (nI (μ 2 c 3)) h') : wp_X6_whereIs h (ad 8 0) (nI c) post := by
  have b := v.2.2.2.2.1.2.1
  unfold wp_X6_whereIs
  refine ⟨t_8 r w, q_car1 r w v hc (fun J hJ => ⟨fun q => absurd q n10, fun _ => hJ _ (q_well0 r w (fun h3 r3 K hK => ⟨fun q => absurd q n10, fun _ => ?_⟩))⟩)⟩
  refine ⟨t_8 r3 w, _, r_8_12 r3 w, t_42 r3 w, c, rfl, by omega, by rw [n_42 r3 w]; omega, _, a_42 r3 w (by omega), hK _ ?_⟩
  rw [u98 (by decide)]
  exact hp h3 r3
theorem q_isTested1 (r : RR dE ad ρ μ h) (w : WA ρ) (v : WV μ) {c : Nat} (hc : c < μ 1 2 2) {post : Int32 → Hp → Prop} (hp : ∀ h', RR dE ad ρ (up μ 98 0 0 0) h' → post (nI (μ 2 c 6)) h') : wp_X6_isTested h (ad 8 0) (nI c) post := by
  have b := v.2.2.2.2.1.2.1
  have b6 := (v.2.2.1 c).2.1
  unfold wp_X6_isTested
  refine ⟨t_8 r w, q_car1 r w v hc (fun J hJ => ⟨fun q => absurd q n10, fun _ => hJ _ (q_well0 r w (fun h3 r3 K hK L hL => ⟨fun q => absurd q n10, fun _ => ?_⟩))⟩)⟩
  refine ⟨t_8 r3 w, _, r_8_16 r3 w, t_46 r3 w, c, rfl, by omega, by rw [n_46 r3 w]; omega, _, a_46 r3 w (by omega), ?_⟩
  rw [u98 (by decide)]
  have hp := hp h3 r3
  refine ⟨fun q => hL (hK _ ⟨Or.inl rfl, ?_⟩), fun q => hK _ ⟨Or.inr rfl, ?_⟩⟩
  · rw [nI0 (by omega) q] at hp
    exact hp
  · have : μ 2 c 6 = 1 := by have : μ 2 c 6 ≠ 0 := fun z => q (nI0' z); omega
    rw [this] at hp
    exact hp
theorem q_isFit1 (r : RR dE ad ρ μ h) (w : WA ρ) (m : WW μ) {c : Nat} (hc : c < μ 1 2 2) {post : Int32 → Hp → Prop} (hp : ∀ h', RR dE ad ρ (up μ 98 0 0 0) h' → post (nI (fitsS μ c).toNat) h') : wp_X6_isFit h (ad 8 0) (nI c) post := by
  have v := m.1.2.1
  have b := v.2.2.2.2.1.2.1
  unfold wp_X6_isFit
  refine ⟨t_8 r w, q_car1 r w v hc (fun J hJ => ⟨fun q => absurd q n10, fun _ => hJ _ (q_well0 r w (fun h3 r3 K hK L hL => ⟨fun q => absurd q n10, fun _ => ?_⟩))⟩)⟩
  have m3 := WW98 (k := 0) m
  refine ⟨t_8 r3 w, q_fits r3 w m3.1.2.1 m3.1.2.2.1 (by omega) (fun b h6 hb r6 => ?_)⟩
  rw [fits98] at hb
  have hp := hp h6 r6
  rw [← hb] at hp
  cases b with
  | false => exact ⟨fun _ => hL h6 (hK _ _ ⟨Or.inl rfl, hp⟩), fun q => absurd rfl q⟩
  | true => exact ⟨fun q => absurd q n10, fun _ => hK _ _ ⟨Or.inr rfl, hp⟩⟩
theorem q_lacks1 (r : RR dE ad ρ μ h) (w : WA ρ) (m : WW μ) {c : Nat} (hc : c < μ 1 2 2) {post : Int32 → Hp → Prop} (hp : ∀ h', RR dE ad ρ (up μ 98 0 0 0) h' → post (setI (lack μ c) 10) h') : wp_X6_lacks h (ad 8 0) (nI c) post := by
  have v := m.1.2.1
  have b := v.2.2.2.2.1.2.1
  unfold wp_X6_lacks
  refine ⟨t_8 r w, q_car1 r w v hc (fun J hJ => ⟨fun q => absurd q n10, fun _ => hJ _ (q_well0 r w (fun h3 r3 K hK => ⟨fun q => absurd q n10, fun _ => ?_⟩))⟩)⟩
  have m3 := WW98 (k := 0) m
  refine ⟨t_8 r3 w, q_mask r3 w m3.1.2.1 (by omega) (hK _ ?_)⟩
  rw [lack98]
  exact hp h3 r3
theorem q_needs1 (r : RR dE ad ρ μ h) (w : WA ρ) (m : WW μ) {c : Nat} (hc : c < μ 1 2 2) {post : Int32 → Hp → Prop} (hp : ∀ h', RR dE ad ρ (up μ 98 0 0 0) h' → post (setI (need μ c) 10) h') : wp_X6_needs h (ad 8 0) (nI c) post := by
  have v := m.1.2.1
  have b := v.2.2.2.2.1.2.1
  unfold wp_X6_needs
  refine ⟨t_8 r w, q_car1 r w v hc (fun J hJ => ⟨fun q => absurd q n10, fun _ => hJ _ (q_well0 r w (fun h3 r3 => ⟨fun q => absurd q n10, fun _ K hK => ?_⟩))⟩)⟩
  have m3 := WW98 (k := 0) m
  have hp := hp h3 r3
  refine lpA (J := K) hK 10 (fun k x => x = setI (need μ c) k) rfl (fun k x hk e hs => ?_)
  subst e
  by_cases hk2 : k < 10
  · refine ⟨fun q => absurd q (nI_ge (b := 10) hk2 (by omega)), fun _ => ⟨t_8 r3 w, q_need r3 w m3.1.2.1 (by omega) hk2 (fun b hb L hL => ?_)⟩⟩
    rw [need98] at hb
    have nx : ∀ x, x = setI (need μ c) (k + 1) → K x (nI k + 1) := fun x ex => by rw [nI_1]; exact hs x hk2 ex
    cases b with
    | false =>
      refine ⟨fun _ => hL _ (nx _ ?_), fun q => absurd rfl q⟩
      rw [setI, if_neg (by rw [← hb]; decide), Int32.or_zero]
    | true =>
      refine ⟨fun q => absurd q n10, fun _ => hL _ (nx _ ?_)⟩
      rw [setI, if_pos hb.symm]
      rfl
  · have : k = 10 := by omega
    subst this
    exact ⟨fun _ => hp, fun q => absurd (nI_le (Nat.le_refl 10) (by omega)) q⟩
theorem q_stationOf1 (r : RR dE ad ρ μ h) (w : WA ρ) (v : WV μ) (g6 : WL6 μ) {c : Nat} (hc : c < μ 1 2 2) {post : Int32 → Hp → Prop} (hp : ∀ h', RR dE ad ρ (up μ 98 0 0 0) h' → post (nI (μ 2 c 4)) h') : wp_X6_stationOf h (ad 8 0) (nI c) post := by
  have b := v.2.2.2.2.1.2.1
  have b3 := (v.2.2.1 c).1
  unfold wp_X6_stationOf
  refine ⟨t_8 r w, q_car1 r w v hc (fun J hJ => ⟨fun q => absurd q n10, fun _ => hJ _ (q_well0 r w (fun h3 r3 => ⟨fun q => absurd q n10, fun _ => ?_⟩))⟩)⟩
  have hp := hp h3 r3
  have a42 : hI h3 (ad 42 0) c = nI (μ 2 c 3) := by rw [a_42 r3 w (by omega), u98 (by decide)]
  have a43 : hI h3 (ad 43 0) c = nI (μ 2 c 9) := by rw [a_43 r3 w (by omega), u98 (by decide)]
  refine ⟨t_8 r3 w, _, r_8_12 r3 w, t_42 r3 w, c, rfl, by omega, by rw [n_42 r3 w]; omega, _, a42, fun K hK L hL => ?_⟩
  have at9 : μ 2 c 3 = 1 ∨ μ 2 c 3 = 2 → L := fun q => hL ⟨_, r_8_13 r3 w, t_43 r3 w, c, rfl, by omega, by rw [n_43 r3 w]; omega, _, a43, hK _ (by rw [← (g6 c hc).1 q]; exact hp)⟩
  refine ⟨fun q => at9 (Or.inl ((nI_eq (b := 1) (by omega) (by omega)).mp q)), fun q1 => ⟨_, r_8_12 r3 w, t_42 r3 w, c, rfl, by omega, by rw [n_42 r3 w]; omega, _, a42, fun q => at9 (Or.inr ((nI_eq (b := 2) (by omega) (by omega)).mp q)), fun q2 => hK _ ?_⟩⟩
  have n1 : μ 2 c 3 ≠ 1 := fun z => q1 (by rw [z]; rfl)
  have n2 : μ 2 c 3 ≠ 2 := fun z => q2 (by rw [z]; rfl)
  have e4 := (g6 c hc).2 (by omega)
  rw [e4, ← lm1] at hp
  exact hp
theorem q_carAt0 (r : RR dE ad ρ μ h) (w : WA ρ) {x : Int32} (hx : NL x 8) {post : Int32 → Hp → Prop} (hp : ∀ h', RR dE ad ρ (up μ 98 0 0 1) h' → post (nI 0) h') : wp_X6_carAt h (ad 8 0) x post := by
  unfold wp_X6_carAt
  refine q_in0 (a := 0) (b := 7) (hx.elim Or.inl (fun q => ?_)) (fun J hJ => ⟨fun _ => hJ _ ⟨t_8 r w, q_wellN (k := 1) r w (by decide) (by decide) (fun h2 r2 K hK => ⟨fun _ => hK _ (hp h2 r2), fun q => absurd rfl q⟩)⟩, fun q => absurd rfl q⟩)
  by_cases q1 : x < 0
  · exact Or.inl q1
  · obtain ⟨n, hn, rfl⟩ := nI_of q1
    have := (nI_leI (a := 8) (by omega) hn).mp q
    exact Or.inr (nI_lt (by omega) hn)
theorem q_carAt1 (r : RR dE ad ρ μ h) (w : WA ρ) {s : Nat} (hs : s < 8) {post : Int32 → Hp → Prop} (hp : ∀ h', RR dE ad ρ (up μ 98 0 0 0) h' → post (nI (μ 25 0 s) - nI 1) h') : wp_X6_carAt h (ad 8 0) (nI s) post := by
  unfold wp_X6_carAt
  refine q_in1 (a := 0) (b := 7) (Nat.zero_le _) (by omega) (by omega) (fun J hJ => ⟨fun q => absurd q n10, fun _ => hJ _ ⟨t_8 r w, q_well0 r w (fun h2 r2 K hK => ⟨fun q => absurd q n10, fun _ => ?_⟩)⟩⟩)
  refine ⟨t_8 r2 w, _, r_8_19 r2 w, t_49 r2 w, s, rfl, by omega, by rw [n_49 r2 w]; omega, _, a_49 r2 w (by omega), hK _ ?_⟩
  rw [u98 (by decide)]
  exact hp h2 r2
/-! of a car or an image, and a kind -/
theorem q_picks0 (r : RR dE ad ρ μ h) (w : WA ρ) (v : WV μ) {x y : Int32} (hx : NL x (μ 1 2 2) ∨ NL y 10) {post : Int32 → Hp → Prop} (hp : ∀ h', RR dE ad ρ (up μ 98 0 0 1) h' → post (nI 0) h') : wp_X6_lotByPicks h (ad 8 0) x y post := by
  have b := v.2.2.2.2.1.2.1
  unfold wp_X6_lotByPicks
  refine ⟨t_8 r w, ?_⟩
  have main : ∀ {J : Int32 → Prop}, (∀ t, wp_X6_goesWell h (ad 8 0) t (fun x3 h3 => ∀ J44 : Int32 → Prop, (∀ (t44_0 : Int32), (post t44_0 h3) → J44 t44_0) → ((x3 = 0 → J44 (0 : Int32)) ∧ (¬ (x3 = 0) → (hT h3 (ad 8 0) = 8 ∧ (∃ a6 : Nat, hR h3 (ad 8 0) 14 = some a6 ∧ (hT h3 a6 = 20 ∧ (∃ j8 : Nat, ((10 : Int32) * x) + y = nI j8 ∧ j8 < 2147483648 ∧ j8 < hL h3 a6 ∧ (∃ x9 : Int32, hI h3 a6 j8 = x9 ∧ J44 (x9 - (1 : Int32)))))))))) → J t) → J (1 : Int32) := fun hJ => hJ _ (q_wellN (k := 1) r w (by decide) (by decide) (fun h3 r3 K hK => ⟨fun _ => hK _ (hp h3 r3), fun q => absurd rfl q⟩))
  rcases NL_or (N := μ 1 2 2) (by omega) x with ⟨c, hc, rfl⟩ | q
  · have hy : NL y 10 := hx.elim (fun z => by
      exfalso
      exact z.elim (fun z => nI_nlt (Nat.zero_le _) (by omega) z) (fun z => nI_ge hc (by omega) z)) id
    exact q_car1 r w v hc (fun J hJ K hK => ⟨fun q => absurd q n10, fun _ => q_kind0 hy ⟨fun _ => hK (main hJ), fun q => absurd rfl q⟩⟩)
  · exact q_car0 r w v q (fun J hJ K hK => ⟨fun _ => hK (main hJ), fun q => absurd rfl q⟩)
theorem q_picks1 (r : RR dE ad ρ μ h) (w : WA ρ) (v : WV μ) {c k : Nat} (hc : c < μ 1 2 2) (hk : k < 10) {post : Int32 → Hp → Prop} (hp : ∀ h', RR dE ad ρ (up μ 98 0 0 0) h' → post (nI (μ 24 c k) - nI 1) h') : wp_X6_lotByPicks h (ad 8 0) (nI c) (nI k) post := by
  have b := v.2.2.2.2.1.2.1
  unfold wp_X6_lotByPicks
  refine ⟨t_8 r w, q_car1 r w v hc (fun J hJ K hK => ⟨fun q => absurd q n10, fun _ => q_kind1 hk ⟨fun q => absurd q n10, fun _ => hJ _ (q_well0 r w (fun h3 r3 L hL => ⟨fun q => absurd q n10, fun _ => ?_⟩))⟩⟩)⟩
  refine ⟨t_8 r3 w, _, r_8_14 r3 w, t_44 r3 w, 10 * c + k, i10 c k, by omega, by rw [n_44 r3 w]; omega, _, a44 r3 w (by omega) hk, hL _ ?_⟩
  rw [u98 (by decide)]
  exact hp h3 r3
theorem q_lotIn0 (r : RR dE ad ρ μ h) (w : WA ρ) (v : WV μ) {x y : Int32} (hx : NL x (μ 1 2 2) ∨ NL y 10) {post : Int32 → Hp → Prop} (hp : ∀ h', RR dE ad ρ (up μ 98 0 0 1) h' → post (nI 0) h') : wp_X6_lotIn h (ad 8 0) x y post := by
  unfold wp_X6_lotIn
  exact ⟨t_8 r w, q_picks0 r w v hx hp⟩
theorem q_lotIn1 (r : RR dE ad ρ μ h) (w : WA ρ) (v : WV μ) {c k : Nat} (hc : c < μ 1 2 2) (hk : k < 10) {post : Int32 → Hp → Prop} (hp : ∀ h', RR dE ad ρ (up μ 98 0 0 0) h' → post (nI (μ 24 c k) - nI 1) h') : wp_X6_lotIn h (ad 8 0) (nI c) (nI k) post := by
  unfold wp_X6_lotIn
  exact ⟨t_8 r w, q_picks1 r w v hc hk hp⟩
theorem q_versionIn0 (r : RR dE ad ρ μ h) (w : WA ρ) (v : WV μ) {x y : Int32} (hx : NL x (μ 1 3 2) ∨ NL y 10) {post : Int32 → Hp → Prop} (hp : ∀ h', RR dE ad ρ (up μ 98 0 0 1) h' → post (nI 0) h') : wp_X6_versionIn h (ad 8 0) x y post := by
  have b := v.2.2.2.2.1.2.2.1
  unfold wp_X6_versionIn
  refine ⟨t_8 r w, ?_⟩
  have main : ∀ {J : Int32 → Prop}, (∀ t, wp_X6_goesWell h (ad 8 0) t (fun x3 h3 => ∀ J42 : Int32 → Prop, (∀ (t42_0 : Int32), (post t42_0 h3) → J42 t42_0) → ((x3 = 0 → J42 (0 : Int32)) ∧ (¬ (x3 = 0) → (hT h3 (ad 8 0) = 8 ∧ (∃ a6 : Nat, hR h3 (ad 8 0) 24 = some a6 ∧ (hT h3 a6 = 20 ∧ (∃ j8 : Nat, ((10 : Int32) * x) + y = nI j8 ∧ j8 < 2147483648 ∧ j8 < hL h3 a6 ∧ (∃ x9 : Int32, hI h3 a6 j8 = x9 ∧ J42 x9)))))))) → J t) → J (1 : Int32) := fun hJ => hJ _ (q_wellN (k := 1) r w (by decide) (by decide) (fun h3 r3 K hK => ⟨fun _ => hK _ (hp h3 r3), fun q => absurd rfl q⟩))
  rcases NL_or (N := μ 1 3 2) (by omega) x with ⟨c, hc, rfl⟩ | q
  · have hy : NL y 10 := hx.elim (fun z => by
      exfalso
      exact z.elim (fun z => nI_nlt (Nat.zero_le _) (by omega) z) (fun z => nI_ge hc (by omega) z)) id
    exact q_img1 r w v hc (fun J hJ K hK => ⟨fun q => absurd q n10, fun _ => q_kind0 hy ⟨fun _ => hK (main hJ), fun q => absurd rfl q⟩⟩)
  · exact q_img0 r w v q (fun J hJ K hK => ⟨fun _ => hK (main hJ), fun q => absurd rfl q⟩)
theorem q_versionIn1 (r : RR dE ad ρ μ h) (w : WA ρ) (v : WV μ) {n k : Nat} (hn : n < μ 1 3 2) (hk : k < 10) {post : Int32 → Hp → Prop} (hp : ∀ h', RR dE ad ρ (up μ 98 0 0 0) h' → post (nI (μ 19 n k)) h') : wp_X6_versionIn h (ad 8 0) (nI n) (nI k) post := by
  have b := v.2.2.2.2.1.2.2.1
  unfold wp_X6_versionIn
  refine ⟨t_8 r w, q_img1 r w v hn (fun J hJ K hK => ⟨fun q => absurd q n10, fun _ => q_kind1 hk ⟨fun q => absurd q n10, fun _ => hJ _ (q_well0 r w (fun h3 r3 L hL => ⟨fun q => absurd q n10, fun _ => ?_⟩))⟩⟩)⟩
  refine ⟨t_8 r3 w, _, r_8_24 r3 w, t_54 r3 w, 10 * n + k, i10 n k, by omega, by rw [n_54 r3 w]; omega, _, a_54 r3 w (by omega), hL _ ?_⟩
  rw [u98 (by decide), d10 hk, m10 hk]
  exact hp h3 r3
theorem q_atLarge (r : RR dE ad ρ μ h) (w : WA ρ) (v : WV μ) {post : Int32 → Hp → Prop} (hp : ∀ h', RR dE ad ρ (up μ 98 0 0 0) h' → post (nI (cnt (largeB μ) (μ 1 2 2))) h') : wp_X6_atLarge h (ad 8 0) post := by
  have b30 := v.2.2.2.2.1.2.1
  have b40 := v.2.2.2.2.1.1
  unfold wp_X6_atLarge
  refine ⟨t_8 r w, fun h2 e2 => ?_⟩
  have r2 : RR dE ad ρ (up μ 98 0 0 0) h2 := by rw [e2]; exact sn_0 r w
  have hp := hp h2 r2
  clear e2
  intro J hJ
  refine lpA (J := J) hJ (μ 1 2 2) (fun k x => x = nI (cnt (largeB μ) k)) rfl (fun c x hk e hs => ?_)
  subst e
  have m10' : hI h2 (ad 8 0) 10 = nI (μ 1 2 2) := by rw [m_10 r2 w, u98 (by decide)]
  refine ⟨_, m10', fun q => ?_, fun q => ?_⟩
  · have := (nI_leI (by omega) (by omega)).mp q
    have : c = μ 1 2 2 := by omega
    subst this
    exact hp
  · have hc : c < μ 1 2 2 := by
      by_cases z : c < μ 1 2 2
      · exact z
      · exact absurd (nI_le (by omega) (by omega)) q
    have hC : c < 30 := by omega
    have b3 := (v.2.2.1 c).1
    have stp : cnt (largeB μ) (c + 1) = if largeB μ c = true then cnt (largeB μ) c + 1 else cnt (largeB μ) c := rfl
    have nx : ∀ x, x = nI (cnt (largeB μ) (c + 1)) → J x (nI c + 1) := fun x ex => by rw [nI_1]; exact hs x hc ex
    intro K hK
    refine lpA (J := K) hK 10 (fun k x => (x = nI 0 ∧ ∀ i, i < k → (!(decide (μ 24 c i ≠ 0) && decide (μ 5 (μ 24 c i - 1) 4 ≠ 0))) = true) ∨ (x = nI 1 ∧ ∃ i, i < 10 ∧ (!(decide (μ 24 c i ≠ 0) && decide (μ 5 (μ 24 c i - 1) 4 ≠ 0))) = false)) (Or.inl ⟨rfl, fun i hi => absurd hi (Nat.not_lt_zero i)⟩) (fun k x hk e hs2 => ?_)
    by_cases hk2 : k < 10
    · have a44' : hI h2 (ad 44 0) (10 * c + k) = nI (μ 24 c k) := by rw [a44 r2 w hC hk2, u98 (by decide)]
      have l24 := v.2.2.2.2.2.2.2.2.1 c k
      refine ⟨fun q => absurd q (nI_ge (b := 10) hk2 (by omega)), fun _ => ⟨_, r_8_14 r2 w, t_44 r2 w, 10 * c + k, i10 c k, by omega, by rw [n_44 r2 w]; omega, _, a44', fun L hL M hM => ?_⟩⟩
      have go : ∀ x2, ((x2 = nI 0 ∧ ∀ i, i < k + 1 → (!(decide (μ 24 c i ≠ 0) && decide (μ 5 (μ 24 c i - 1) 4 ≠ 0))) = true) ∨ (x2 = nI 1 ∧ ∃ i, i < 10 ∧ (!(decide (μ 24 c i ≠ 0) && decide (μ 5 (μ 24 c i - 1) 4 ≠ 0))) = false)) → L x2 := fun x2 y => hL x2 (by rw [nI_1]; exact hs2 x2 hk2 y)
      rcases e with ⟨rfl, e⟩ | ⟨rfl, e⟩
      · refine ⟨fun _ N hN => ?_, fun q => absurd rfl q⟩
        have stay : (!(decide (μ 24 c k ≠ 0) && decide (μ 5 (μ 24 c k - 1) 4 ≠ 0))) = true → N := fun y => hN (go _ (Or.inl ⟨rfl, fun i hi => by
          by_cases z : i = k
          · rw [z]; exact y
          · exact e i (by omega)⟩))
        by_cases z : μ 24 c k = 0
        · exact ⟨fun _ => stay (by simp [z]), fun q => absurd (by rw [z]; decide) q⟩
        · have hl : μ 24 c k - 1 < 40 := by omega
          have b4 := (v.2.1 (μ 24 c k - 1)).2.2.2
          have a39 : hI h2 (ad 39 0) (μ 24 c k - 1) = nI (μ 5 (μ 24 c k - 1) 4) := by rw [a_39 r2 w hl, u98 (by decide)]
          refine ⟨fun q => absurd q (fun q => z (by have := (nI_leI (b := 0) (by omega) (by omega)).mp q; omega)), fun _ => ⟨_, r_8_9 r2 w, t_39 r2 w, μ 24 c k - 1, nI_subN (b := 1) (by omega), by omega, by rw [n_39 r2 w]; exact hl, _, a39, fun q => stay ?_, fun q => hM (go _ (Or.inr ⟨rfl, k, hk2, ?_⟩))⟩⟩
          · simp [nI0 (by omega) q]
          · have : μ 5 (μ 24 c k - 1) 4 ≠ 0 := fun y => q (nI0' y)
            simp [z, this]
      · exact ⟨fun q => absurd q n10, fun _ => hM (go _ (Or.inr ⟨rfl, e⟩))⟩
    · have : k = 10 := by omega
      subst this
      have a42 : hI h2 (ad 42 0) c = nI (μ 2 c 3) := by rw [a_42 r2 w hC, u98 (by decide)]
      refine ⟨fun _ => ⟨_, r_8_12 r2 w, t_42 r2 w, c, rfl, by omega, by rw [n_42 r2 w]; omega, _, a42, fun L hL M hM => ?_⟩, fun q => absurd (nI_le (Nat.le_refl 10) (by omega)) q⟩
      have no : largeB μ c = false → M := fun y => hM (hL _ (nx _ (by rw [stp, if_neg (by rw [y]; decide)]; exact Int32.add_zero _)))
      refine ⟨fun q3 => ?_, fun q3 => no ?_⟩
      · have e3 : μ 2 c 3 = 3 := (nI_eq (b := 3) (by omega) (by omega)).mp q3
        rcases e with ⟨rfl, e⟩ | ⟨rfl, i, hi, e⟩
        · refine ⟨fun _ => no ?_, fun q => absurd rfl q⟩
          have : true = all10 (fun k => !(decide (μ 24 c k ≠ 0) && decide (μ 5 (μ 24 c k - 1) 4 ≠ 0))) := all10_t (fun i hi => e i (by omega))
          unfold largeB recU
          rw [← this]
          simp
        · refine ⟨fun q => absurd q n10, fun _ => hL _ (nx _ ?_)⟩
          have : false = all10 (fun k => !(decide (μ 24 c k ≠ 0) && decide (μ 5 (μ 24 c k - 1) 4 ≠ 0))) := all10_f hi e
          have lb : largeB μ c = true := by
            unfold largeB recU
            rw [← this]
            simp [e3]
          rw [stp, if_pos lb, ← nI_1]
      · have e3 : μ 2 c 3 ≠ 3 := fun z => q3 (by rw [z]; rfl)
        simp [largeB, e3]
end MA
