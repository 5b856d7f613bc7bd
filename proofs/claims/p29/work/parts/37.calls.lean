/-! arguments; the line's calls that make nothing -/
theorem ix_nlt {x y : Int32} (h : x ≤ y) : ¬ y < x := by
  rw [Int32.lt_iff_toInt_lt]
  rw [Int32.le_iff_toInt_le] at h
  omega
theorem ix_nle {x y : Int32} (h : x < y) : ¬ y ≤ x := by
  rw [Int32.le_iff_toInt_le]
  rw [Int32.lt_iff_toInt_lt] at h
  omega
theorem ng_lt {x : Int32} (hx : x < nI 0) {n : Nat} (hn : n < 2147483648) : x < nI n := by
  rw [Int32.lt_iff_toInt_lt] at *
  rw [nI_toInt (by decide)] at hx
  rw [nI_toInt (by omega)]
  omega
/-- no place below N -/
def NL (x : Int32) (N : Nat) : Prop := x < nI 0 ∨ nI N ≤ x
/-- not from a to b -/
def NR (x : Int32) (a b : Nat) : Prop := x < nI a ∨ nI b < x
theorem NL_or {N : Nat} (hN : N < 2147483648) (x : Int32) : (∃ n, n < N ∧ x = nI n) ∨ NL x N := by
  by_cases h : x < 0
  · exact Or.inr (Or.inl h)
  · obtain ⟨n, hn, rfl⟩ := nI_of h
    by_cases q : n < N
    · exact Or.inl ⟨n, q, rfl⟩
    · exact Or.inr (Or.inr (nI_le (by omega) hn))
theorem NR_or {a b : Nat} (hb : b < 2147483648) (hab : a ≤ b) (x : Int32) : (∃ n, a ≤ n ∧ n ≤ b ∧ x = nI n) ∨ NR x a b := by
  by_cases h : x < 0
  · exact Or.inr (Or.inl (ng_lt h (by omega)))
  · obtain ⟨n, hn, rfl⟩ := nI_of h
    by_cases q : n < a
    · exact Or.inr (Or.inl (nI_lt q (by omega)))
    · by_cases q2 : n ≤ b
      · exact Or.inl ⟨n, by omega, q2, rfl⟩
      · exact Or.inr (Or.inr (nI_lt (by omega) hn))
theorem NR_0 {x : Int32} {b : Nat} (h : NR x 0 b) (q : ¬ x < 0) : nI b < x := h.elim (fun z => absurd z q) id
theorem NL_0 {x : Int32} {b : Nat} (h : NL x b) (q : ¬ x < 0) : nI b ≤ x := h.elim (fun z => absurd z q) id
theorem n10 : ¬ (nI 1 = 0) := by decide
theorem m1_eq {v : Nat} : nI v - nI 1 = nI (if v = 0 then NN else v - 1) := by
  by_cases z : v = 0
  · subst z; decide
  · rw [if_neg z, nI_subN (by omega)]
def kindS (σ : St) (k s a b f : Nat) : St := up (up (up (up σ 4 k 0 s) 4 k 1 a) 4 k 2 b) 4 k 3 f
def recallS (σ : St) (l : Nat) : St := up σ 5 l 4 1
def hasLot (σ : St) (l c : Nat) : Bool := decide (σ 24 c (σ 5 l 1) = l + 1)
def faultS (σ : St) (c : Nat) : St := up σ 2 c 8 1
def signI (σ : St) (n c : Nat) : Int32 := nI (σ 3 n 2) ||| (nI 1 <<< (nI c &&& 31))
def signS (σ : St) (n c : Nat) : St := up (up σ 3 n 2 (signI σ n c).toBitVec.toNat) 28 n c 1
def flashS (σ : St) (c n : Nat) : St := up (up (up σ 2 c 5 (n + 1)) 2 c 6 0) 2 c 7 0
def largeB (σ : St) (c : Nat) : Bool := decide (σ 2 c 3 = 3) && recU σ c
section LC
variable {dE : Nat} {ad : Nat → Nat → Nat} {ρ : St} {μ : Mu} {h : Hp}
theorem p_kindOk {k : Nat} (hk : k < 10) {post : Prop} {px : String → Prop} (hp : post) : wp_X5_checkKind h (nI k) post px := by
  unfold wp_X5_checkKind
  exact fun J hJ => ⟨fun q => absurd q (nI_pos (by omega)), fun _ => ⟨fun _ => hp, fun q => absurd (nI_lt (b := 10) hk (by omega)) q⟩⟩
theorem p_kindNo {x : Int32} (hx : NL x 10) {post : Prop} {px : String → Prop} (hp : px XB) : wp_X5_checkKind h x post px := by
  unfold wp_X5_checkKind
  exact fun J hJ => ⟨fun _ => hJ hp, fun q => ⟨fun q2 => absurd q2 (ix_nlt (NL_0 hx q)), fun _ => hJ hp⟩⟩
theorem p_optOk {a : Nat} (ha : a ≤ 255) {post : Int32 → Prop} (hp : post (nI 1)) : wp_X5_isOptionSet h (nI a) post := by
  unfold wp_X5_isOptionSet
  exact fun J hJ K hK => ⟨fun q => absurd q (nI_pos (by omega)), fun _ => ⟨fun q => absurd q (nI_nlt (b := a) (a := 255) ha (by omega)), fun _ => hJ _ ⟨Or.inr rfl, hp⟩⟩⟩
theorem p_optNo {x : Int32} (hx : NR x 0 255) {post : Int32 → Prop} (hp : post (nI 0)) : wp_X5_isOptionSet h x post := by
  unfold wp_X5_isOptionSet
  exact fun J hJ K hK => ⟨fun _ => hK (hJ _ ⟨Or.inl rfl, hp⟩), fun q => ⟨fun _ => hK (hJ _ ⟨Or.inl rfl, hp⟩), fun q2 => absurd (NR_0 hx q) q2⟩⟩
theorem p_fstOk {a : Nat} (ha : a ≤ 4) {post : Int32 → Prop} (hp : post (nI 1)) : wp_X5_isFittingStation h (nI a) post := by
  unfold wp_X5_isFittingStation
  exact fun J hJ K hK => ⟨fun q => absurd q (nI_pos (by omega)), fun _ => ⟨fun q => absurd q (nI_ge (a := a) (b := 5) (by omega) (by omega)), fun _ => hJ _ ⟨Or.inr rfl, hp⟩⟩⟩
theorem p_fstNo {x : Int32} (hx : NR x 0 4) {post : Int32 → Prop} (hp : post (nI 0)) : wp_X5_isFittingStation h x post := by
  unfold wp_X5_isFittingStation
  refine fun J hJ K hK => ⟨fun _ => hK (hJ _ ⟨Or.inl rfl, hp⟩), fun q => ⟨fun _ => hK (hJ _ ⟨Or.inl rfl, hp⟩), fun q2 => absurd ?_ q2⟩⟩
  have := NR_0 hx q
  obtain ⟨n, hn, rfl⟩ := nI_of q
  exact nI_le (a := 5) (by have := (nI_ltI (a := 4) (by omega) hn).mp this; omega) hn
theorem p_stOk {a : Nat} (ha : a < 8) {post : Int32 → Prop} (hp : post (nI 1)) : wp_X5_isStation h (nI a) post := p_isSt ha hp
theorem p_stNo {x : Int32} (hx : NL x 8) {post : Int32 → Prop} (hp : post (nI 0)) : wp_X5_isStation h x post := by
  unfold wp_X5_isStation
  exact fun J hJ K hK => ⟨fun _ => hK (hJ _ ⟨Or.inl rfl, hp⟩), fun q => ⟨fun _ => hK (hJ _ ⟨Or.inl rfl, hp⟩), fun q2 => absurd (NL_0 hx q) q2⟩⟩
theorem p_carOk (r : RR dE ad ρ μ h) (w : WA ρ) (v : WV ρ) {c : Nat} (hc : c < ρ 1 2 2) {post : Prop} {px : String → Prop} (hp : post) : wp_X5_checkCar h (ad 7 0) (nI c) post px := by
  have b := v.2.2.2.2.1.2.1
  unfold wp_X5_checkCar
  exact fun J hJ => ⟨fun q => absurd q (nI_pos (by omega)), fun _ => ⟨t_7 r w, _, r_7_2 r w, t_1 r w (by decide) (by decide), t_1 r w (by decide) (by decide), _, i_1_2 r w (by decide) (by decide), fun _ => hp, fun q => absurd (nI_lt hc (by omega)) q⟩⟩
theorem p_carNo (r : RR dE ad ρ μ h) (w : WA ρ) (v : WV ρ) {x : Int32} (hx : NL x (ρ 1 2 2)) {post : Prop} {px : String → Prop} (hp : px XB) : wp_X5_checkCar h (ad 7 0) x post px := by
  unfold wp_X5_checkCar
  exact fun J hJ => ⟨fun _ => hJ hp, fun q => ⟨t_7 r w, _, r_7_2 r w, t_1 r w (by decide) (by decide), t_1 r w (by decide) (by decide), _, i_1_2 r w (by decide) (by decide), fun q2 => absurd q2 (ix_nlt (NL_0 hx q)), fun _ => hJ hp⟩⟩
theorem p_exCar (r : RR dE ad ρ μ h) (w : WA ρ) (v : WV ρ) {c : Nat} (hc : c < ρ 1 2 2) {post : Nat → Prop} {px : String → Prop} (hp : post (ad 2 c)) : wp_X5_existingCar h (ad 7 0) (nI c) post px := by
  unfold wp_X5_existingCar
  exact ⟨t_7 r w, p_carOk r w v hc ⟨_, r_7_2 r w, t_1 r w (by decide) (by decide), p_getC r w hc ⟨t_2 r w hc, hp⟩⟩⟩
theorem p_exCarNo (r : RR dE ad ρ μ h) (w : WA ρ) (v : WV ρ) {x : Int32} (hx : NL x (ρ 1 2 2)) {post : Nat → Prop} {px : String → Prop} (hp : px XB) : wp_X5_existingCar h (ad 7 0) x post px := by
  unfold wp_X5_existingCar
  exact ⟨t_7 r w, p_carNo r w v hx hp⟩
theorem p_exLot (r : RR dE ad ρ μ h) (w : WA ρ) (v : WV ρ) {l : Nat} (hl : l < ρ 1 1 2) {post : Nat → Prop} {px : String → Prop} (hp : post (ad 5 l)) : wp_X5_existingLot h (ad 7 0) (nI l) post px := by
  have b := v.2.2.2.2.1.1
  unfold wp_X5_existingLot
  exact fun J hJ => ⟨fun q => absurd q (nI_pos (by omega)), fun _ => ⟨t_7 r w, _, r_7_1 r w, t_1 r w (by decide) (by decide), t_1 r w (by decide) (by decide), _, i_1_2 r w (by decide) (by decide), fun _ => ⟨_, r_7_1 r w, t_1 r w (by decide) (by decide), p_getL r w hl ⟨t_5 r w hl, hp⟩⟩, fun q => absurd (nI_lt hl (by omega)) q⟩⟩
theorem p_exLotNo (r : RR dE ad ρ μ h) (w : WA ρ) (v : WV ρ) {x : Int32} (hx : NL x (ρ 1 1 2)) {post : Nat → Prop} {px : String → Prop} (hp : px XB) : wp_X5_existingLot h (ad 7 0) x post px := by
  unfold wp_X5_existingLot
  exact fun J hJ => ⟨fun _ => hJ hp, fun q => ⟨t_7 r w, _, r_7_1 r w, t_1 r w (by decide) (by decide), t_1 r w (by decide) (by decide), _, i_1_2 r w (by decide) (by decide), fun q2 => absurd q2 (ix_nlt (NL_0 hx q)), fun _ => hJ hp⟩⟩
theorem p_exImg (r : RR dE ad ρ μ h) (w : WA ρ) (v : WV ρ) {n : Nat} (hn : n < ρ 1 3 2) {post : Nat → Prop} {px : String → Prop} (hp : post (ad 3 n)) : wp_X5_existingImage h (ad 7 0) (nI n) post px := by
  have b := v.2.2.2.2.1.2.2.1
  unfold wp_X5_existingImage
  exact fun J hJ => ⟨fun q => absurd q (nI_pos (by omega)), fun _ => ⟨t_7 r w, _, r_7_3 r w, t_1 r w (by decide) (by decide), t_1 r w (by decide) (by decide), _, i_1_2 r w (by decide) (by decide), fun _ => ⟨_, r_7_3 r w, t_1 r w (by decide) (by decide), p_getI r w hn ⟨t_3 r w hn, hp⟩⟩, fun q => absurd (nI_lt hn (by omega)) q⟩⟩
theorem p_exImgNo (r : RR dE ad ρ μ h) (w : WA ρ) (v : WV ρ) {x : Int32} (hx : NL x (ρ 1 3 2)) {post : Nat → Prop} {px : String → Prop} (hp : px XB) : wp_X5_existingImage h (ad 7 0) x post px := by
  unfold wp_X5_existingImage
  exact fun J hJ => ⟨fun _ => hJ hp, fun q => ⟨t_7 r w, _, r_7_3 r w, t_1 r w (by decide) (by decide), t_1 r w (by decide) (by decide), _, i_1_2 r w (by decide) (by decide), fun q2 => absurd q2 (ix_nlt (NL_0 hx q)), fun _ => hJ hp⟩⟩
theorem p_exKind (r : RR dE ad ρ μ h) (w : WA ρ) {k : Nat} (hk : k < 10) {post : Nat → Prop} {px : String → Prop} (hp : post (ad 4 k)) : wp_X5_existingKind h (ad 7 0) (nI k) post px := by
  unfold wp_X5_existingKind
  exact p_kindOk hk ⟨t_7 r w, _, r_7_0 r w, t_23 r w, k, rfl, by omega, by rw [n_23 r w]; exact hk, _, r_23 r w hk, hp⟩
/-! kind -/
theorem c_kind1 (r : RR dE ad ρ μ h) (w : WA ρ) {x y1 y2 y3 y4 : Int32} (hx : NL x 10) {post : Hp → Prop} {px : String → Hp → Prop} (hp : px XB h) : wp_X5_kind h (ad 7 0) x y1 y2 y3 y4 post px := by
  unfold wp_X5_kind wp_X5_existingKind
  exact ⟨t_7 r w, p_kindNo hx hp⟩
theorem c_kind2 (r : RR dE ad ρ μ h) (w : WA ρ) {k : Nat} {y1 y2 y3 y4 : Int32} (hk : k < 10) (hx : NR y1 0 4 ∨ NR y2 0 255 ∨ NR y3 0 255) {post : Hp → Prop} {px : String → Hp → Prop} (hp : px XA h) : wp_X5_kind h (ad 7 0) (nI k) y1 y2 y3 y4 post px := by
  unfold wp_X5_kind
  refine ⟨t_7 r w, p_exKind r w hk ?_⟩
  rcases NR_or (a := 0) (b := 4) (by decide) (by decide) y1 with ⟨s, -, hs, rfl⟩ | q1
  · refine p_fstOk hs (fun J hJ => ⟨fun q => absurd q n10, fun _ => ?_⟩)
    rcases NR_or (a := 0) (b := 255) (by decide) (by decide) y2 with ⟨a, -, ha, rfl⟩ | q2
    · refine p_optOk ha ⟨fun q => absurd q n10, fun _ => ?_⟩
      rcases NR_or (a := 0) (b := 255) (by decide) (by decide) y3 with ⟨b, -, hb, rfl⟩ | q3
      · exfalso
        have key : ∀ {n m : Nat}, n ≤ m → m < 1000 → NR (nI n) 0 m → False := fun h1 h2 z => z.elim (fun z => nI_nlt (Nat.zero_le _) (by omega) z) (fun z => nI_nlt h1 (by omega) z)
        exact hx.elim (key hs (by decide)) (fun z => z.elim (key ha (by decide)) (key hb (by decide)))
      · exact p_optNo q3 ⟨fun _ => hJ hp, fun q => absurd rfl q⟩
    · exact p_optNo q2 ⟨fun _ => hJ hp, fun q => absurd rfl q⟩
  · exact p_fstNo q1 (fun J hJ => ⟨fun _ => hJ hp, fun q => absurd rfl q⟩)
theorem c_kind3 (r : RR dE ad ρ μ h) (w : WA ρ) (v : WV ρ) {k s a b : Nat} {y4 : Int32} (hk : k < 10) (hs : s ≤ 4) (ha : a ≤ 255) (hb : b ≤ 255) (hc : ρ 1 2 2 ≠ 0) {post : Hp → Prop} {px : String → Hp → Prop} (hp : px XS h) : wp_X5_kind h (ad 7 0) (nI k) (nI s) (nI a) (nI b) y4 post px := by
  have b30 := v.2.2.2.2.1.2.1
  unfold wp_X5_kind wp_Jx4a65c_isEmpty_aae02
  refine ⟨t_7 r w, p_exKind r w hk (p_fstOk hs (fun J hJ => ⟨fun q => absurd q n10, fun _ => p_optOk ha ⟨fun q => absurd q n10, fun _ => p_optOk hb ⟨fun q => absurd q n10, fun _ => ?_⟩⟩⟩))⟩
  refine ⟨_, r_7_2 r w, t_1 r w (by decide) (by decide), t_1 r w (by decide) (by decide), _, i_1_2 r w (by decide) (by decide), fun K hK => ⟨fun q => absurd ((nI_eq (b := 0) (by omega) (by omega)).mp q) hc, fun _ => hK _ ⟨Or.inl rfl, fun _ => hp, fun q => absurd rfl q⟩⟩⟩
theorem c_kind4 (r : RR dE ad ρ μ h) (w : WA ρ) {k s a b f : Nat} (hk : k < 10) (hs : s ≤ 4) (ha : a ≤ 255) (hb : b ≤ 255) (hf : f ≤ 1) (hc : ρ 1 2 2 = 0) {post : Hp → Prop} {px : String → Hp → Prop} (hp : ∀ h', RR dE ad (kindS ρ k s a b f) μ h' → post h') : wp_X5_kind h (ad 7 0) (nI k) (nI s) (nI a) (nI b) (nI f) post px := by
  unfold wp_X5_kind wp_Jx4a65c_isEmpty_aae02
  refine ⟨t_7 r w, p_exKind r w hk (p_fstOk hs (fun J hJ => ⟨fun q => absurd q n10, fun _ => p_optOk ha ⟨fun q => absurd q n10, fun _ => p_optOk hb ⟨fun q => absurd q n10, fun _ => ?_⟩⟩⟩))⟩
  have v4 := (w.2.1 k hk).1
  refine ⟨_, r_7_2 r w, t_1 r w (by decide) (by decide), t_1 r w (by decide) (by decide), _, i_1_2 r w (by decide) (by decide), fun K hK => ⟨fun _ => hK _ ⟨Or.inr rfl, fun q => absurd q n10, fun _ => ⟨t_4 r w hk, fun h1 e1 h2 e2 h3 e3 => ⟨b01_v1 hf, fun h4 e4 => hp h4 ?_⟩⟩⟩, fun q => absurd (by rw [hc]; rfl) q⟩⟩
  subst e1 e2 e3 e4
  have r1 := r.setI (v := s) v4 (j := 0) rfl (by decide)
  have r2 := r1.setI (v := a) ((V_up (by decide) _ _).mpr v4) (j := 1) rfl (by decide)
  have r3 := r2.setI (v := b) ((V_up (by decide) _ _).mpr ((V_up (by decide) _ _).mpr v4)) (j := 2) rfl (by decide)
  exact r3.setI (v := f) ((V_up (by decide) _ _).mpr ((V_up (by decide) _ _).mpr ((V_up (by decide) _ _).mpr v4))) (j := 3) rfl (by decide)
/-! recall, units -/
theorem p_cars (r : RR dE ad ρ μ h) (w : WA ρ) (v : WV ρ) {l : Nat} (hl : l < ρ 1 1 2) {post : Int32 → Prop} (hp : post (nI (cnt (hasLot ρ l) (ρ 1 2 2)))) : wp_X5_carsWithUnitOf h (ad 7 0) (ad 5 l) post := by
  have b30 := v.2.2.2.2.1.2.1
  have b10 := (v.2.1 l).1
  unfold wp_X5_carsWithUnitOf
  intro J hJ
  refine lpA (J := J) hJ (ρ 1 2 2) (fun k x => x = nI (cnt (hasLot ρ l) k)) rfl (fun k x hk e hs => ?_)
  subst e
  refine ⟨t_7 r w, _, r_7_2 r w, t_1 r w (by decide) (by decide), t_1 r w (by decide) (by decide), _, i_1_2 r w (by decide) (by decide), fun q => ?_, fun q => ?_⟩
  · have := (nI_leI (by omega) (by omega)).mp q
    have : k = ρ 1 2 2 := by omega
    subst this
    exact hp
  · have hk2 : k < ρ 1 2 2 := by
      by_cases z : k < ρ 1 2 2
      · exact z
      · exact absurd (nI_le (by omega) (by omega)) q
    refine ⟨_, r_7_2 r w, t_1 r w (by decide) (by decide), p_getC r w hk2 ⟨t_2 r w hk2, _, r_2_2 r w hk2, t_5 r w hl, _, i_5_1 r w hl, t_24 r w hk2, _, rfl, by omega, by rw [n_24 r w hk2]; exact b10, _, r_24 r w hk2, fun K hK => ?_⟩⟩
    have stp : cnt (hasLot ρ l) (k + 1) = if hasLot ρ l k = true then cnt (hasLot ρ l) k + 1 else cnt (hasLot ρ l) k := rfl
    have nx : ∀ x, x = nI (cnt (hasLot ρ l) (k + 1)) → K x := fun x ex => hK _ (by rw [nI_1]; exact hs x hk2 ex)
    by_cases z : ρ 24 k (ρ 5 l 1) = 0
    · rw [am0 z]
      refine ⟨fun q => (by cases q), fun _ => nx _ ?_⟩
      rw [stp, if_neg (by simp [hasLot, z])]
    · have hl2 : ρ 24 k (ρ 5 l 1) - 1 < ρ 1 1 2 := by have := v.2.2.2.2.2.2.2.2.1 k (ρ 5 l 1); omega
      rw [am1 z]
      refine ⟨fun q => nx _ ?_, fun q => nx _ ?_⟩
      · injection q with q
        have e := (r.inj ((w.2.2.2.2.1 _).mpr hl2) ((w.2.2.2.2.1 _).mpr hl) q).2
        rw [stp, if_pos (by simp [hasLot]; omega), nI_1]
      · have ne : ¬ ρ 24 k (ρ 5 l 1) = l + 1 := fun z2 => q (by rw [z2, Nat.add_sub_cancel])
        rw [stp, if_neg (by simp [hasLot, ne])]
theorem c_recall1 (r : RR dE ad ρ μ h) (w : WA ρ) (v : WV ρ) {x : Int32} (hx : NL x (ρ 1 1 2)) {post : Int32 → Hp → Prop} {px : String → Hp → Prop} (hp : px XB h) : wp_X5_recall h (ad 7 0) x post px := by
  unfold wp_X5_recall
  exact ⟨t_7 r w, p_exLotNo r w v hx hp⟩
theorem c_recall2 (r : RR dE ad ρ μ h) (w : WA ρ) (v : WV ρ) {l : Nat} (hl : l < ρ 1 1 2) (z : ρ 5 l 4 ≠ 0) {post : Int32 → Hp → Prop} {px : String → Hp → Prop} (hp : px XS h) : wp_X5_recall h (ad 7 0) (nI l) post px := by
  have b1 := (v.2.1 l).2.2.2
  unfold wp_X5_recall
  exact ⟨t_7 r w, p_exLot r w v hl ⟨t_5 r w hl, _, i_5_4 r w hl, fun q => absurd ((nI_eq (b := 0) (by omega) (by omega)).mp q) z, fun _ => hp⟩⟩
theorem c_recall3 (r : RR dE ad ρ μ h) (ww : WI ρ) {l : Nat} (hl : l < ρ 1 1 2) (z : ρ 5 l 4 = 0) {post : Int32 → Hp → Prop} {px : String → Hp → Prop} (hp : ∀ h', RR dE ad (recallS ρ l) μ h' → post (nI (cnt (hasLot ρ l) (ρ 1 2 2))) h') : wp_X5_recall h (ad 7 0) (nI l) post px := by
  have w := ww.1
  have v := ww.2.1
  unfold wp_X5_recall
  refine ⟨t_7 r w, p_exLot r w v hl ⟨t_5 r w hl, _, i_5_4 r w hl, fun _ h6 e6 => ?_, fun q => absurd (by rw [z]; rfl) q⟩⟩
  have r6 : RR dE ad (recallS ρ l) μ h6 := by
    rw [e6]
    exact r.setI (v := 1) ((w.2.2.2.2.1 l).mpr hl) (j := 4) rfl (by decide)
  have w6 : WI (recallS ρ l) := WI_up ww (by simp [okU, hl])
  have e1 : recallS ρ l 1 2 2 = ρ 1 2 2 := up_ne (fun z => by cases z.1)
  have e2 : recallS ρ l 1 1 2 = ρ 1 1 2 := up_ne (fun z => by cases z.1)
  have eh : hasLot (recallS ρ l) l = hasLot ρ l := by
    funext c
    unfold hasLot
    have a1 : recallS ρ l 5 l 1 = ρ 5 l 1 := up_ne (fun z => by cases z.2.2)
    have a2 : ∀ k, recallS ρ l 24 c k = ρ 24 c k := fun k => up_ne (fun z => by cases z.1)
    rw [a1, a2]
  refine p_cars r6 w6.1 w6.2.1 (by rw [e2]; exact hl) ?_
  rw [eh, e1]
  exact hp h6 r6
theorem c_units1 (r : RR dE ad ρ μ h) (w : WA ρ) (v : WV ρ) {x : Int32} (hx : NL x (ρ 1 1 2)) {post : Int32 → Prop} {px : String → Prop} (hp : px XB) : wp_X5_units h (ad 7 0) x post px := by
  unfold wp_X5_units
  exact ⟨t_7 r w, p_exLotNo r w v hx hp⟩
theorem c_units2 (r : RR dE ad ρ μ h) (w : WA ρ) (v : WV ρ) {l : Nat} (hl : l < ρ 1 1 2) {post : Int32 → Prop} {px : String → Prop} (hp : post (nI (ρ 5 l 3))) : wp_X5_units h (ad 7 0) (nI l) post px := by
  unfold wp_X5_units
  exact ⟨t_7 r w, p_exLot r w v hl ⟨t_5 r w hl, _, i_5_3 r w hl, hp⟩⟩
/-! fault and the questions of one car -/
theorem c_fault1 (r : RR dE ad ρ μ h) (w : WA ρ) (v : WV ρ) {x : Int32} (hx : NL x (ρ 1 2 2)) {post : Int32 → Hp → Prop} {px : String → Hp → Prop} (hp : px XB h) : wp_X5_fault h (ad 7 0) x post px := by
  unfold wp_X5_fault
  exact ⟨t_7 r w, p_exCarNo r w v hx hp⟩
theorem c_fault2 (r : RR dE ad ρ μ h) (w : WA ρ) (v : WV ρ) {c : Nat} (hc : c < ρ 1 2 2) (z : ρ 2 c 3 = 3) {post : Int32 → Hp → Prop} {px : String → Hp → Prop} (hp : px XS h) : wp_X5_fault h (ad 7 0) (nI c) post px := by
  unfold wp_X5_fault
  exact ⟨t_7 r w, p_exCar r w v hc ⟨t_2 r w hc, _, i_2_3 r w hc, fun _ => hp, fun q => absurd (by rw [z]; rfl) q⟩⟩
theorem c_fault3 (r : RR dE ad ρ μ h) (w : WA ρ) (v : WV ρ) {c : Nat} (hc : c < ρ 1 2 2) (z : ρ 2 c 3 ≠ 3) {post : Int32 → Hp → Prop} {px : String → Hp → Prop} (hp : ∀ h', RR dE ad (faultS ρ c) μ h' → post (nI (decide (ρ 2 c 8 = 0)).toNat) h') : wp_X5_fault h (ad 7 0) (nI c) post px := by
  have b3 := (v.2.2.1 c).1
  have b8 := (v.2.2.1 c).2.2.2.1
  unfold wp_X5_fault
  refine ⟨t_7 r w, p_exCar r w v hc ⟨t_2 r w hc, _, i_2_3 r w hc, fun q => absurd ((nI_eq (b := 3) (by omega) (by omega)).mp q) z, fun _ => ⟨_, i_2_8 r w hc, fun J hJ => ?_⟩⟩⟩
  have main : J (nI (decide (ρ 2 c 8 = 0)).toNat) := hJ _ (fun h7 e7 => ⟨b01_b _, hp h7 (by
    rw [e7]
    exact r.setI (v := 1) ((w.2.2.2.2.2.1 c).1.mpr hc) (j := 8) rfl (by decide))⟩)
  by_cases y : ρ 2 c 8 = 0
  · rw [decide_eq_true y] at main
    exact ⟨fun _ => main, fun q => absurd (by rw [y]; rfl) q⟩
  · rw [decide_eq_false y] at main
    exact ⟨fun q => absurd ((nI_eq (b := 0) (by omega) (by omega)).mp q) y, fun _ => main⟩
theorem c_takts (r : RR dE ad ρ μ h) (w : WA ρ) {post : Int32 → Prop} (hp : post (nI (ρ 7 0 7))) : wp_X5_takts h (ad 7 0) post := by
  unfold wp_X5_takts
  exact ⟨t_7 r w, _, i_7_7 r w, hp⟩
theorem c_scrapped (r : RR dE ad ρ μ h) (w : WA ρ) {post : Int32 → Prop} (hp : post (nI (ρ 7 0 8))) : wp_X5_scrapped h (ad 7 0) post := by
  unfold wp_X5_scrapped
  exact ⟨t_7 r w, _, i_7_8 r w, hp⟩
theorem c_failed (r : RR dE ad ρ μ h) (w : WA ρ) {post : Int32 → Prop} (hp : post (nI (ρ 7 0 9))) : wp_X5_failed h (ad 7 0) post := by
  unfold wp_X5_failed
  exact ⟨t_7 r w, _, i_7_9 r w, hp⟩
theorem c_images (r : RR dE ad ρ μ h) (w : WA ρ) {post : Int32 → Prop} (hp : post (nI (ρ 1 3 2))) : wp_X5_images h (ad 7 0) post := by
  unfold wp_X5_images
  exact ⟨t_7 r w, _, r_7_3 r w, t_1 r w (by decide) (by decide), t_1 r w (by decide) (by decide), _, i_1_2 r w (by decide) (by decide), hp⟩
theorem c_whereIs1 (r : RR dE ad ρ μ h) (w : WA ρ) (v : WV ρ) {x : Int32} (hx : NL x (ρ 1 2 2)) {post : Int32 → Prop} {px : String → Prop} (hp : px XB) : wp_X5_whereIs h (ad 7 0) x post px := by
  unfold wp_X5_whereIs
  exact ⟨t_7 r w, p_exCarNo r w v hx hp⟩
theorem c_whereIs2 (r : RR dE ad ρ μ h) (w : WA ρ) (v : WV ρ) {c : Nat} (hc : c < ρ 1 2 2) {post : Int32 → Prop} {px : String → Prop} (hp : post (nI (ρ 2 c 3))) : wp_X5_whereIs h (ad 7 0) (nI c) post px := by
  unfold wp_X5_whereIs
  exact ⟨t_7 r w, p_exCar r w v hc ⟨t_2 r w hc, _, i_2_3 r w hc, hp⟩⟩
theorem c_stationOf1 (r : RR dE ad ρ μ h) (w : WA ρ) (v : WV ρ) {x : Int32} (hx : NL x (ρ 1 2 2)) {post : Int32 → Prop} {px : String → Prop} (hp : px XB) : wp_X5_stationOf h (ad 7 0) x post px := by
  unfold wp_X5_stationOf
  exact ⟨t_7 r w, p_exCarNo r w v hx hp⟩
theorem c_stationOf2 (r : RR dE ad ρ μ h) (w : WA ρ) (v : WV ρ) {c : Nat} (hc : c < ρ 1 2 2) {post : Int32 → Prop} {px : String → Prop} (hp : post (nI (ρ 2 c 4))) : wp_X5_stationOf h (ad 7 0) (nI c) post px := by
  unfold wp_X5_stationOf
  exact ⟨t_7 r w, p_exCar r w v hc ⟨t_2 r w hc, _, i_2_4 r w hc, hp⟩⟩
theorem c_isTested1 (r : RR dE ad ρ μ h) (w : WA ρ) (v : WV ρ) {x : Int32} (hx : NL x (ρ 1 2 2)) {post : Int32 → Prop} {px : String → Prop} (hp : px XB) : wp_X5_isTested h (ad 7 0) x post px := by
  unfold wp_X5_isTested
  exact ⟨t_7 r w, p_exCarNo r w v hx hp⟩
theorem c_isTested2 (r : RR dE ad ρ μ h) (w : WA ρ) (v : WV ρ) {c : Nat} (hc : c < ρ 1 2 2) {post : Int32 → Prop} {px : String → Prop} (hp : post (nI (ρ 2 c 6))) : wp_X5_isTested h (ad 7 0) (nI c) post px := by
  unfold wp_X5_isTested
  exact ⟨t_7 r w, p_exCar r w v hc ⟨t_2 r w hc, _, i_2_6 r w hc, b01_v1 (v.2.2.1 c).2.1, hp⟩⟩
theorem c_isFit1 (r : RR dE ad ρ μ h) (w : WA ρ) (v : WV ρ) {x : Int32} (hx : NL x (ρ 1 2 2)) {post : Int32 → Prop} {px : String → Prop} (hp : px XB) : wp_X5_isFit h (ad 7 0) x post px := by
  unfold wp_X5_isFit
  exact ⟨t_7 r w, p_exCarNo r w v hx hp⟩
theorem c_isFit2 (r : RR dE ad ρ μ h) (w : WA ρ) (v : WV ρ) {c : Nat} (hc : c < ρ 1 2 2) {post : Int32 → Prop} {px : String → Prop} (hp : post (nI (fitsS ρ c).toNat)) : wp_X5_isFit h (ad 7 0) (nI c) post px := by
  unfold wp_X5_isFit
  exact ⟨t_7 r w, p_exCar r w v hc (p_fits r w v hc (fun b hb => ⟨b01_b b, by rw [hb]; exact hp⟩))⟩
theorem c_needs1 (r : RR dE ad ρ μ h) (w : WA ρ) (v : WV ρ) {x : Int32} (hx : NL x (ρ 1 2 2)) {post : Int32 → Prop} {px : String → Prop} (hp : px XB) : wp_X5_needs h (ad 7 0) x post px := by
  unfold wp_X5_needs
  exact ⟨t_7 r w, p_exCarNo r w v hx hp⟩
theorem c_needs2 (r : RR dE ad ρ μ h) (w : WA ρ) (v : WV ρ) {c : Nat} (hc : c < ρ 1 2 2) {post : Int32 → Prop} {px : String → Prop} (hp : post (setI (need ρ c) 10)) : wp_X5_needs h (ad 7 0) (nI c) post px := by
  unfold wp_X5_needs
  exact ⟨t_7 r w, p_exCar r w v hc (p_maskN r w v hc hp)⟩
theorem c_lacks1 (r : RR dE ad ρ μ h) (w : WA ρ) (v : WV ρ) {x : Int32} (hx : NL x (ρ 1 2 2)) {post : Int32 → Prop} {px : String → Prop} (hp : px XB) : wp_X5_lacks h (ad 7 0) x post px := by
  unfold wp_X5_lacks
  exact ⟨t_7 r w, p_exCarNo r w v hx hp⟩
theorem c_lacks2 (r : RR dE ad ρ μ h) (w : WA ρ) (v : WV ρ) {c : Nat} (hc : c < ρ 1 2 2) {post : Int32 → Prop} {px : String → Prop} (hp : post (setI (lack ρ c) 10)) : wp_X5_lacks h (ad 7 0) (nI c) post px := by
  unfold wp_X5_lacks
  exact ⟨t_7 r w, p_exCar r w v hc (p_mask r w v hc hp)⟩
/-! answers that are a number less one -/
theorem p_less {t v : Nat} {J : Int32 → Prop} (hv : v ≠ 0 → hT h (ad t (v - 1)) = tgL t ∧ hI h (ad t (v - 1)) 0 = nI (v - 1)) (hp : J (nI v - nI 1)) : (am ad (orl t v) = none → J (-1 : Int32)) ∧ (∀ x, am ad (orl t v) = some x → (hT h x = tgL t ∧ (∃ y : Int32, hI h x 0 = y ∧ J y))) := by
  by_cases z : v = 0
  · rw [am0 z]
    refine ⟨fun _ => ?_, fun x q => (by cases q)⟩
    rw [z] at hp
    exact hp
  · rw [am1 z]
    refine ⟨fun q => (by cases q), fun x q => ?_⟩
    injection q with q
    subst q
    obtain ⟨a, b⟩ := hv z
    refine ⟨a, _, b, ?_⟩
    rw [nI_subN (by omega)] at hp
    exact hp
theorem p_numC (r : RR dE ad ρ μ h) (w : WA ρ) (v : WV ρ) {x : Nat} (hx : x ≤ ρ 1 2 2) (z : x ≠ 0) : hT h (ad 2 (x - 1)) = tgL 2 ∧ hI h (ad 2 (x - 1)) 0 = nI (x - 1) := by
  have hc : x - 1 < ρ 1 2 2 := by omega
  exact ⟨t_2 r w hc, by rw [i_2_0 r w hc, v.2.2.2.2.2.2.1 _ hc]⟩
theorem p_numL (r : RR dE ad ρ μ h) (w : WA ρ) (v : WV ρ) {x : Nat} (hx : x ≤ ρ 1 1 2) (z : x ≠ 0) : hT h (ad 5 (x - 1)) = tgL 5 ∧ hI h (ad 5 (x - 1)) 0 = nI (x - 1) := by
  have hc : x - 1 < ρ 1 1 2 := by omega
  exact ⟨t_5 r w hc, by rw [i_5_0 r w hc, v.2.2.2.2.2.1 _ hc]⟩
theorem p_numI (r : RR dE ad ρ μ h) (w : WA ρ) (v : WV ρ) {x : Nat} (hx : x ≤ ρ 1 3 2) (z : x ≠ 0) : hT h (ad 3 (x - 1)) = tgL 3 ∧ hI h (ad 3 (x - 1)) 0 = nI (x - 1) := by
  have hc : x - 1 < ρ 1 3 2 := by omega
  exact ⟨t_3 r w hc, by rw [i_3_0 r w hc, v.2.2.2.2.2.2.2.1 _ hc]⟩
theorem c_carAt1 {x : Int32} (hx : NL x 8) {post : Int32 → Prop} {px : String → Prop} (hp : px XA) : wp_X5_carAt h (ad 7 0) x post px := by
  unfold wp_X5_carAt
  exact p_stNo hx ⟨fun _ => hp, fun q => absurd rfl q⟩
theorem c_carAt2 (r : RR dE ad ρ μ h) (w : WA ρ) (v : WV ρ) {s : Nat} (hs : s < 8) {post : Int32 → Prop} {px : String → Prop} (hp : post (nI (ρ 25 0 s) - nI 1)) : wp_X5_carAt h (ad 7 0) (nI s) post px := by
  unfold wp_X5_carAt
  exact p_stOk hs ⟨fun q => absurd q n10, fun _ => ⟨t_7 r w, _, r_7_6 r w, t_25 r w, s, rfl, by omega, by rw [n_25 r w]; exact hs, _, r_25 r w, fun J hJ => p_less (t := 2) (p_numC r w v (v.2.2.2.2.2.2.2.2.2.2 s)) (hJ _ hp)⟩⟩
theorem c_lotIn1 (r : RR dE ad ρ μ h) (w : WA ρ) (v : WV ρ) {x y : Int32} (hx : NL x (ρ 1 2 2)) {post : Int32 → Prop} {px : String → Prop} (hp : px XB) : wp_X5_lotIn h (ad 7 0) x y post px := by
  unfold wp_X5_lotIn
  exact ⟨t_7 r w, p_exCarNo r w v hx hp⟩
theorem c_lotIn2 (r : RR dE ad ρ μ h) (w : WA ρ) (v : WV ρ) {c : Nat} {y : Int32} (hc : c < ρ 1 2 2) (hy : NL y 10) {post : Int32 → Prop} {px : String → Prop} (hp : px XB) : wp_X5_lotIn h (ad 7 0) (nI c) y post px := by
  unfold wp_X5_lotIn
  exact ⟨t_7 r w, p_exCar r w v hc (p_kindNo hy hp)⟩
theorem c_lotIn3 (r : RR dE ad ρ μ h) (w : WA ρ) (v : WV ρ) {c k : Nat} (hc : c < ρ 1 2 2) (hk : k < 10) {post : Int32 → Prop} {px : String → Prop} (hp : post (nI (ρ 24 c k) - nI 1)) : wp_X5_lotIn h (ad 7 0) (nI c) (nI k) post px := by
  unfold wp_X5_lotIn
  exact ⟨t_7 r w, p_exCar r w v hc (p_kindOk hk ⟨t_2 r w hc, _, r_2_2 r w hc, t_24 r w hc, k, rfl, by omega, by rw [n_24 r w hc]; exact hk, _, r_24 r w hc, fun J hJ => p_less (t := 5) (p_numL r w v (v.2.2.2.2.2.2.2.2.1 c k)) (hJ _ hp)⟩)⟩
theorem c_imageOf1 (r : RR dE ad ρ μ h) (w : WA ρ) (v : WV ρ) {x : Int32} (hx : NL x (ρ 1 2 2)) {post : Int32 → Prop} {px : String → Prop} (hp : px XB) : wp_X5_imageOf h (ad 7 0) x post px := by
  unfold wp_X5_imageOf
  exact ⟨t_7 r w, p_exCarNo r w v hx hp⟩
theorem c_imageOf2 (r : RR dE ad ρ μ h) (w : WA ρ) (v : WV ρ) {c : Nat} (hc : c < ρ 1 2 2) {post : Int32 → Prop} {px : String → Prop} (hp : post (nI (ρ 2 c 5) - nI 1)) : wp_X5_imageOf h (ad 7 0) (nI c) post px := by
  unfold wp_X5_imageOf
  exact ⟨t_7 r w, p_exCar r w v hc ⟨t_2 r w hc, _, r_2_5 r w hc, fun J hJ => p_less (t := 3) (p_numI r w v (v.2.2.2.2.2.2.2.2.2.1 c)) (hJ _ hp)⟩⟩
theorem c_picks1 (r : RR dE ad ρ μ h) (w : WA ρ) (v : WV ρ) {x y : Int32} (hx : NL x (ρ 1 2 2)) {post : Int32 → Prop} {px : String → Prop} (hp : px XB) : wp_X5_lotByPicks h (ad 7 0) x y post px := by
  unfold wp_X5_lotByPicks
  exact ⟨t_7 r w, p_carNo r w v hx hp⟩
theorem c_picks2 (r : RR dE ad ρ μ h) (w : WA ρ) (v : WV ρ) {c : Nat} {y : Int32} (hc : c < ρ 1 2 2) (hy : NL y 10) {post : Int32 → Prop} {px : String → Prop} (hp : px XB) : wp_X5_lotByPicks h (ad 7 0) (nI c) y post px := by
  unfold wp_X5_lotByPicks
  exact ⟨t_7 r w, p_carOk r w v hc (p_kindNo hy hp)⟩
theorem c_picks3 (r : RR dE ad ρ μ h) (w : WA ρ) (v : WV ρ) (wp : WPk ρ) {c k : Nat} (hc : c < ρ 1 2 2) (hk : k < 10) {post : Int32 → Prop} {px : String → Prop} (hp : post (nI (ρ 24 c k) - nI 1)) : wp_X5_lotByPicks h (ad 7 0) (nI c) (nI k) post px := by
  have c30 := v.2.2.2.2.1.2.1
  have p5 := siz w (i := 5) (by decide) (by decide)
  unfold wp_X5_lotByPicks
  refine ⟨t_7 r w, p_carOk r w v hc (p_kindOk hk (fun J hJ => ?_))⟩
  refine lpA (J := J) hJ (ρ 1 5 2) (fun p x => x = nI (lastP ρ c k p)) rfl (fun p x hp2 e hs => ?_)
  subst e
  refine ⟨_, r_7_5 r w, t_1 r w (by decide) (by decide), t_1 r w (by decide) (by decide), _, i_1_2 r w (by decide) (by decide), fun q => ?_, fun q => ?_⟩
  · have := (nI_leI (by omega) (by omega)).mp q
    have : p = ρ 1 5 2 := by omega
    subst this
    rw [wp.2.1 c k hc hk, ← m1_eq]
    exact hp
  · have hp3 : p < ρ 1 5 2 := by
      by_cases z : p < ρ 1 5 2
      · exact z
      · exact absurd (nI_le (by omega) (by omega)) q
    obtain ⟨b1, b2⟩ := wp.1 p
    refine ⟨_, r_7_5 r w, t_1 r w (by decide) (by decide), p_getP r w hp3 ⟨t_6 r w hp3, _, i_6_0 r w hp3, fun K hK => ?_⟩⟩
    have stp : lastP ρ c k (p + 1) = if ρ 6 p 0 = c ∧ ρ 6 p 1 = k then ρ 6 p 2 else lastP ρ c k p := rfl
    have nx : ∀ x, x = nI (lastP ρ c k (p + 1)) → K x := fun x ex => hK _ (by rw [nI_1]; exact hs x hp3 ex)
    refine ⟨fun q0 => ⟨_, i_6_1 r w hp3, fun q1 => ⟨_, i_6_2 r w hp3, nx _ ?_⟩, fun q1 => nx _ ?_⟩, fun q0 => nx _ ?_⟩
    · rw [stp, if_pos ⟨(nI_eq (by omega) (by omega)).mp q0, (nI_eq (by omega) (by omega)).mp q1⟩]
    · rw [stp, if_neg (fun z => q1 (by rw [z.2]))]
    · rw [stp, if_neg (fun z => q0 (by rw [z.1]))]
theorem c_atLarge (r : RR dE ad ρ μ h) (w : WA ρ) (v : WV ρ) {post : Int32 → Prop} (hp : post (nI (cnt (largeB ρ) (ρ 1 2 2)))) : wp_X5_atLarge h (ad 7 0) post := by
  have b30 := v.2.2.2.2.1.2.1
  unfold wp_X5_atLarge
  intro J hJ
  refine lpA (J := J) hJ (ρ 1 2 2) (fun k x => x = nI (cnt (largeB ρ) k)) rfl (fun k x hk e hs => ?_)
  subst e
  refine ⟨t_7 r w, _, r_7_2 r w, t_1 r w (by decide) (by decide), t_1 r w (by decide) (by decide), _, i_1_2 r w (by decide) (by decide), fun q => ?_, fun q => ?_⟩
  · have := (nI_leI (by omega) (by omega)).mp q
    have : k = ρ 1 2 2 := by omega
    subst this
    exact hp
  · have hk2 : k < ρ 1 2 2 := by
      by_cases z : k < ρ 1 2 2
      · exact z
      · exact absurd (nI_le (by omega) (by omega)) q
    have b3 := (v.2.2.1 k).1
    refine ⟨_, r_7_2 r w, t_1 r w (by decide) (by decide), p_getC r w hk2 ⟨t_2 r w hk2, _, i_2_3 r w hk2, fun K hK => ?_⟩⟩
    have stp : cnt (largeB ρ) (k + 1) = if largeB ρ k = true then cnt (largeB ρ) k + 1 else cnt (largeB ρ) k := rfl
    have nx : ∀ x, x = nI (cnt (largeB ρ) (k + 1)) → K x := fun x ex => hK _ (by rw [nI_1]; exact hs x hk2 ex)
    refine ⟨fun q3 => p_recU r w v hk2 (fun b hb => ?_), fun q3 => nx _ ?_⟩
    · have e3 : ρ 2 k 3 = 3 := (nI_eq (b := 3) (by omega) (by omega)).mp q3
      cases b with
      | false => exact ⟨fun _ => nx _ (by rw [stp, if_neg (by simp [largeB, ← hb])]), fun q => absurd rfl q⟩
      | true => exact ⟨fun q => absurd q n10, fun _ => nx _ (by rw [stp, if_pos (by simp [largeB, ← hb, e3]), nI_1])⟩
    · have e3 : ρ 2 k 3 ≠ 3 := fun z => q3 (by rw [z]; rfl)
      rw [stp, if_neg (by simp [largeB, e3])]
/-! sign, flash -/
theorem c_sign1 (r : RR dE ad ρ μ h) (w : WA ρ) (v : WV ρ) {x y : Int32} (hx : NL x (ρ 1 3 2)) {post : Int32 → Hp → Prop} {px : String → Hp → Prop} (hp : px XB h) : wp_X5_sign h (ad 7 0) x y post px := by
  unfold wp_X5_sign
  exact ⟨t_7 r w, p_exImgNo r w v hx hp⟩
theorem c_sign2 (r : RR dE ad ρ μ h) (w : WA ρ) (v : WV ρ) {n : Nat} {y : Int32} (hn : n < ρ 1 3 2) (hy : NL y (ρ 1 2 2)) {post : Int32 → Hp → Prop} {px : String → Hp → Prop} (hp : px XB h) : wp_X5_sign h (ad 7 0) (nI n) y post px := by
  unfold wp_X5_sign
  exact ⟨t_7 r w, p_exImg r w v hn (p_carNo r w v hy hp)⟩
theorem c_sign3 (r : RR dE ad ρ μ h) (w : WA ρ) (v : WV ρ) {n c : Nat} (hn : n < ρ 1 3 2) (hc : c < ρ 1 2 2) {post : Int32 → Hp → Prop} {px : String → Hp → Prop} (hp : ∀ h', RR dE ad (signS ρ n c) μ h' → post (nI (!sgnd ρ n c).toNat) h') : wp_X5_sign h (ad 7 0) (nI n) (nI c) post px := by
  unfold wp_X5_sign
  refine ⟨t_7 r w, p_exImg r w v hn (p_carOk r w v hc ⟨t_3 r w hn, p_sgnd r w hn (fun b hb J hJ => ?_)⟩)⟩
  have main : J (nI (!b).toNat) := hJ _ ⟨_, i_3_2 r w hn, fun h7 e7 => ⟨b01_b _, by
    rw [hb]
    refine hp h7 ?_
    have r1 := r.setI (v := (signI ρ n c).toBitVec.toNat) ((w.2.2.2.2.2.2.1 n).1.mpr hn) (j := 2) rfl (by decide)
    rw [xN] at r1
    have r2 : RR dE ad (signS ρ n c) μ (sI h (ad 3 n) 2 (signI ρ n c)) := r1.irr rfl rfl
    rw [e7]
    exact r2⟩⟩
  cases b with
  | false => exact ⟨fun _ => main, fun q => absurd rfl q⟩
  | true => exact ⟨fun q => absurd q n10, fun _ => main⟩
theorem c_flash1 (r : RR dE ad ρ μ h) (w : WA ρ) (v : WV ρ) {x y : Int32} (hx : NL x (ρ 1 2 2)) {post : Int32 → Hp → Prop} {px : String → Hp → Prop} (hp : px XB h) : wp_X5_flash h (ad 7 0) x y post px := by
  unfold wp_X5_flash
  exact ⟨t_7 r w, p_exCarNo r w v hx hp⟩
theorem c_flash2 (r : RR dE ad ρ μ h) (w : WA ρ) (v : WV ρ) {c : Nat} {y : Int32} (hc : c < ρ 1 2 2) (hy : NL y (ρ 1 3 2)) {post : Int32 → Hp → Prop} {px : String → Hp → Prop} (hp : px XB h) : wp_X5_flash h (ad 7 0) (nI c) y post px := by
  unfold wp_X5_flash
  exact ⟨t_7 r w, p_exCar r w v hc (p_exImgNo r w v hy hp)⟩
def canFl (σ : St) (c : Nat) : Prop := σ 2 c 3 = 1 ∧ 5 ≤ σ 2 c 9
theorem c_flash3 (r : RR dE ad ρ μ h) (w : WA ρ) (v : WV ρ) (g6 : WL6 ρ) {c n : Nat} (hc : c < ρ 1 2 2) (hn : n < ρ 1 3 2) (z : ¬ canFl ρ c) {post : Int32 → Hp → Prop} {px : String → Hp → Prop} (hp : px XS h) : wp_X5_flash h (ad 7 0) (nI c) (nI n) post px := by
  have b3 := (v.2.2.1 c).1
  have b9 := (v.2.2.1 c).2.2.2.2.2
  unfold wp_X5_flash
  refine ⟨t_7 r w, p_exCar r w v hc (p_exImg r w v hn ⟨t_2 r w hc, _, i_2_3 r w hc, fun J hJ => ⟨fun q => ?_, fun _ => hJ hp⟩⟩)⟩
  have e3 : ρ 2 c 3 = 1 := (nI_eq (b := 1) (by omega) (by omega)).mp q
  have e4 := (g6 c hc).1 (Or.inl e3)
  refine ⟨_, i_2_4 r w hc, fun q5 => ?_, fun _ => hJ hp⟩
  rw [e4] at q5
  exact absurd ⟨e3, (nI_leI (a := 5) (by omega) (by omega)).mp q5⟩ z
theorem c_flash4 (r : RR dE ad ρ μ h) (ww : WI ρ) (g6 : WL6 ρ) {c n : Nat} (hc : c < ρ 1 2 2) (hn : n < ρ 1 3 2) (z : canFl ρ c) {post : Int32 → Hp → Prop} {px : String → Hp → Prop} (hp : ∀ h', RR dE ad (flashS ρ c n) μ h' → post (nI (ρ 2 c 5) - nI 1) h') : wp_X5_flash h (ad 7 0) (nI c) (nI n) post px := by
  have w := ww.1
  have v := ww.2.1
  obtain ⟨z1, z2⟩ := z
  have b9 := (v.2.2.1 c).2.2.2.2.2
  have e4 := (g6 c hc).1 (Or.inl z1)
  have vc : V ρ 2 c := (w.2.2.2.2.2.1 c).1.mpr hc
  unfold wp_X5_flash
  refine ⟨t_7 r w, p_exCar r w v hc (p_exImg r w v hn ⟨t_2 r w hc, _, i_2_3 r w hc, fun J hJ => ⟨fun _ => ⟨_, i_2_4 r w hc, fun _ => ?_, fun q => absurd (by rw [e4]; exact nI_le (a := 5) z2 (by omega)) q⟩, fun q => absurd (by rw [z1]; rfl) q⟩⟩)⟩
  refine ⟨_, r_2_5 r w hc, fun h1 e1 h2 e2 h3 e3 K hK => ?_⟩
  have r1 := r.setHeld (v := n + 1) vc (fun _ => by rw [Nat.add_sub_cancel]; exact (w.2.2.2.2.2.2.1 n).1.mpr hn)
  rw [am1' (t := 3) (v := n) rfl, ← e1] at r1
  have r2 := r1.setI (v := 0) ((V_up (by decide) _ _).mpr vc) (j := 6) rfl (by decide)
  have e2 : h2 = sI h1 (ad 2 c) 6 (nI 0) := e2
  rw [← e2] at r2
  have r3 := r2.setI (v := 0) ((V_up (by decide) _ _).mpr ((V_up (by decide) _ _).mpr vc)) (j := 7) rfl (by decide)
  have e3 : h3 = sI h2 (ad 2 c) 7 (nI 0) := e3
  rw [← e3] at r3
  have w3 : WI (flashS ρ c n) := WI_up (WI_up (WI_up ww (by simp [okU, hc]; omega)) (by simp [okU, up, hc])) (by simp [okU, up, hc])
  have s3 : flashS ρ c n 1 3 2 = ρ 1 3 2 := by simp [flashS, up]
  have r3 : RR dE ad (flashS ρ c n) μ h3 := r3
  exact p_less (t := 3) (p_numI r3 w3.1 w3.2.1 (by rw [s3]; exact v.2.2.2.2.2.2.2.2.2.1 c)) (hK _ (hp h3 r3))
end LC
