/-! the law's calls: each has one answer and one state behind it, whatever the heap -/
def wpC (dE mc ms : Nat) (h : Hp) (x q : Nat) (a b c d e : Int32) (post : Int32 → Hp → Prop) : Prop := match q with
  | 0 => wp_L_kind h x a b c d e post
  | 1 => wp_L_lot dE h x a b c post
  | 2 => wp_L_recall h x a post
  | 3 => wp_L_order dE h x a post
  | 4 => wp_L_fault h x a post
  | 5 => wp_L_build dE h x a post
  | 6 => wp_L_sign h x a b post
  | 7 => wp_L_flash h x a b post
  | _ => wp_L_takt dE mc ms h x a post
/-- told: -99999 says that nothing has changed -/
def CO (σ : St) (q : Nat) (a b c d e : Int32) : Prop := ∃ (r : Int32) (S : St), ST σ S 400 ∧ (S = σ ∨ ¬ r = -99999) ∧
  ∀ (dE : Nat) (ad : Nat → Nat → Nat) (μ : Mu) (h : Hp) (mc ms : Nat) (post : Int32 → Hp → Prop), RR dE ad σ μ h → 1000 ≤ mc → 9100 + 4 * (S 9 5 0 - σ 9 5 0) ≤ ms → (∀ ad' h', ad' 7 0 = ad 7 0 → RR dE ad' S μ h' → post r h') → wpC dE mc ms h (ad 7 0) q a b c d e post
theorem ST_le {σ S : St} {n m : Nat} (h : ST σ S n) (hn : n ≤ m) : ST σ S m := ⟨h.1, Nat.le_trans h.2.1 (Nat.add_le_add_left hn _), h.2.2⟩
theorem ne9 {n : Nat} (h : n < 2147483648) : ¬ nI n = -99999 := fun e => nI_pos h (by rw [e]; decide)
theorem ne9m {n : Nat} (h : n < 2147483648) : ¬ nI n - nI 1 = -99999 := by
  rw [m1_eq]
  by_cases z : n = 0
  · rw [if_pos z]; decide
  · rw [if_neg z]; exact ne9 (by omega)
theorem cnt_le (f : Nat → Bool) : ∀ n, cnt f n ≤ n := by
  intro n
  induction n with
  | zero => exact Nat.le_refl _
  | succ n ih =>
    unfold cnt
    split <;> omega
theorem goneN_le {σ : St} : ∀ n, goneN n σ ≤ n := by
  intro n
  induction n with
  | zero => exact Nat.le_refl _
  | succ n ih =>
    have : (leaveB (backN 8 (taktN n σ))).toNat ≤ 1 := by cases leaveB (backN 8 (taktN n σ)) <;> decide
    show goneN n σ + _ ≤ _
    omega
/-- a call that throws -/
theorem CO0 {σ : St} (w : WE σ) {q : Nat} {a b c d e : Int32} (g : ∀ (dE : Nat) (ad : Nat → Nat → Nat) (μ : Mu) (h : Hp) (mc ms : Nat) (post : Int32 → Hp → Prop), RR dE ad σ μ h → 1000 ≤ mc → 9100 ≤ ms → post (-99999) h → wpC dE mc ms h (ad 7 0) q a b c d e post) : CO σ q a b c d e :=
  ⟨-99999, σ, ST_le (ST_refl w) (Nat.zero_le _), Or.inl rfl, fun dE ad μ h mc ms post r h1 h2 hp => g dE ad μ h mc ms post r h1 (by omega) (hp ad h rfl r)⟩
/-- a call that makes no pick -/
theorem CO1 {σ S : St} {r : Int32} (st : ST σ S 0) (hr : ¬ r = -99999) {q : Nat} {a b c d e : Int32} (g : ∀ (dE : Nat) (ad : Nat → Nat → Nat) (μ : Mu) (h : Hp) (mc ms : Nat) (post : Int32 → Hp → Prop), RR dE ad σ μ h → 1000 ≤ mc → (∀ ad' h', ad' 7 0 = ad 7 0 → RR dE ad' S μ h' → post r h') → wpC dE mc ms h (ad 7 0) q a b c d e post) : CO σ q a b c d e :=
  ⟨r, S, ST_le st (Nat.zero_le _), Or.inr hr, fun dE ad μ h mc ms post r h1 _ hp => g dE ad μ h mc ms post r h1 hp⟩
theorem b01_nI {e : Int32} (h : b01 e) : ∃ f, f ≤ 1 ∧ e = nI f := by
  rcases h with rfl | rfl
  · exact ⟨0, by decide, rfl⟩
  · exact ⟨1, by decide, rfl⟩
theorem CO_kind {σ : St} (w : WE σ) (a b c d : Int32) {e : Int32} (he : b01 e) : CO σ 0 a b c d e := by
  have wa := w.1.1.1
  have wv := w.1.1.2.1
  obtain ⟨f, hf, rfl⟩ := b01_nI he
  rcases NL_or (N := 10) (by omega) a with ⟨k, hk, rfl⟩ | q
  · by_cases hr : NR b 0 4 ∨ NR c 0 255 ∨ NR d 0 255
    · exact CO0 w (fun dE ad μ h mc ms post r h1 h2 hp => ⟨t_7 r wa, c_kind2 r wa hk hr (Or.inr (Or.inl ⟨rfl, hp⟩))⟩)
    · obtain ⟨s, -, hs, rfl⟩ := (NR_or (a := 0) (b := 4) (by decide) (by decide) b).resolve_right (fun z => hr (Or.inl z))
      obtain ⟨x, -, hx, rfl⟩ := (NR_or (a := 0) (b := 255) (by decide) (by decide) c).resolve_right (fun z => hr (Or.inr (Or.inl z)))
      obtain ⟨y, -, hy, rfl⟩ := (NR_or (a := 0) (b := 255) (by decide) (by decide) d).resolve_right (fun z => hr (Or.inr (Or.inr z)))
      by_cases hN : σ 1 2 2 = 0
      · exact CO1 (r := 0) (ST_kind (k := k) (a := x) (b := y) w hs hf) (by decide) (fun dE ad μ h mc ms post r h1 hp => ⟨t_7 r wa, c_kind4 r wa hk hs hx hy hf hN (fun h' r' => hp ad h' rfl r')⟩)
      · exact CO0 w (fun dE ad μ h mc ms post r h1 h2 hp => ⟨t_7 r wa, c_kind3 r wa wv hk hs hx hy hN (Or.inr (Or.inr ⟨rfl, hp⟩))⟩)
  · exact CO0 w (fun dE ad μ h mc ms post r h1 h2 hp => ⟨t_7 r wa, c_kind1 r wa q (Or.inl ⟨rfl, hp⟩)⟩)
theorem CO_lot {σ : St} (w : WE σ) (a b c d e : Int32) : CO σ 1 a b c d e := by
  have wa := w.1.1.1
  have wv := w.1.1.2.1
  have n40 := wv.2.2.2.2.1.1
  rcases NL_or (N := 10) (by omega) a with ⟨k, hk, rfl⟩ | q
  · by_cases hr : NR b 1 99 ∨ NR c 1 50
    · exact CO0 w (fun dE ad μ h mc ms post r h1 h2 hp => ⟨t_7 r wa, c_lot2 hk hr (Or.inr (Or.inl ⟨rfl, hp⟩))⟩)
    · obtain ⟨x, x1, x99, rfl⟩ := (NR_or (a := 1) (b := 99) (by decide) (by decide) b).resolve_right (fun z => hr (Or.inl z))
      obtain ⟨u, u1, u50, rfl⟩ := (NR_or (a := 1) (b := 50) (by decide) (by decide) c).resolve_right (fun z => hr (Or.inr z))
      by_cases hN : σ 1 1 2 < 40
      · exact CO1 (r := nI (σ 1 1 2)) (ST_lot w hN hk (by omega) u50) (ne9 (by omega)) (fun dE ad μ h mc ms post r h1 hp => ⟨t_7 r wa, c_lot4 r w.1.1 hk x1 x99 u1 u50 hN (fun ad' h' ah r' => hp ad' h' ah.1 r')⟩)
      · exact CO0 w (fun dE ad μ h mc ms post r h1 h2 hp => ⟨t_7 r wa, c_lot3 r wa wv hk x1 x99 u1 u50 hN (Or.inr (Or.inr ⟨rfl, hp⟩))⟩)
  · exact CO0 w (fun dE ad μ h mc ms post r h1 h2 hp => ⟨t_7 r wa, c_lot1 q (Or.inl ⟨rfl, hp⟩)⟩)
theorem CO_recall {σ : St} (w : WE σ) (a b c d e : Int32) : CO σ 2 a b c d e := by
  have wa := w.1.1.1
  have wv := w.1.1.2.1
  have n40 := wv.2.2.2.2.1.1
  have n30 := wv.2.2.2.2.1.2.1
  rcases NL_or (N := σ 1 1 2) (by omega) a with ⟨l, hl, rfl⟩ | q
  · by_cases z : σ 5 l 4 = 0
    · exact CO1 (r := nI (cnt (hasLot σ l) (σ 1 2 2))) (ST_recall w hl) (ne9 (by have := cnt_le (hasLot σ l) (σ 1 2 2); omega)) (fun dE ad μ h mc ms post r h1 hp => ⟨t_7 r wa, c_recall3 r w.1.1 hl z (fun h' r' => hp ad h' rfl r')⟩)
    · exact CO0 w (fun dE ad μ h mc ms post r h1 h2 hp => ⟨t_7 r wa, c_recall2 r wa wv hl z (Or.inr ⟨rfl, hp⟩)⟩)
  · exact CO0 w (fun dE ad μ h mc ms post r h1 h2 hp => ⟨t_7 r wa, c_recall1 r wa wv q (Or.inl ⟨rfl, hp⟩)⟩)
theorem CO_order {σ : St} (w : WE σ) (a b c d e : Int32) : CO σ 3 a b c d e := by
  have wa := w.1.1.1
  have wv := w.1.1.2.1
  have n30 := wv.2.2.2.2.1.2.1
  rcases NR_or (a := 0) (b := 255) (by decide) (by decide) a with ⟨o, -, ho, rfl⟩ | q
  · by_cases hN : σ 1 2 2 < 30
    · exact CO1 (r := nI (σ 1 2 2)) (ST_order w hN) (ne9 (by omega)) (fun dE ad μ h mc ms post r h1 hp => ⟨t_7 r wa, c_order3 r w.1.1 ho hN (fun ad' h' ah r' => hp ad' h' ah.1 r')⟩)
    · exact CO0 w (fun dE ad μ h mc ms post r h1 h2 hp => ⟨t_7 r wa, c_order2 r wa wv ho hN (Or.inr ⟨rfl, hp⟩)⟩)
  · exact CO0 w (fun dE ad μ h mc ms post r h1 h2 hp => ⟨t_7 r wa, c_order1 q (Or.inl ⟨rfl, hp⟩)⟩)
/-- a boolean of Java, once more out of it -/
theorem jb {b : Bool} {P : Int32 → Prop} (h : P (nI b.toNat)) : ∀ J : Int32 → Prop, (∀ t : Int32, P t → J t) → ((nI b.toNat = 0 → J 0) ∧ (¬ nI b.toNat = 0 → J 1)) := fun J hJ => by
  cases b with
  | false => exact ⟨fun _ => hJ _ h, fun q => absurd rfl q⟩
  | true => exact ⟨fun q => absurd q n10, fun _ => hJ _ h⟩
theorem ne9b (b : Bool) : ¬ nI b.toNat = -99999 := by cases b <;> decide
theorem CO_fault {σ : St} (w : WE σ) (a b c d e : Int32) : CO σ 4 a b c d e := by
  have wa := w.1.1.1
  have wv := w.1.1.2.1
  have n30 := wv.2.2.2.2.1.2.1
  rcases NL_or (N := σ 1 2 2) (by omega) a with ⟨x, hx, rfl⟩ | q
  · by_cases z : σ 2 x 3 = 3
    · exact CO0 w (fun dE ad μ h mc ms post r h1 h2 hp => ⟨t_7 r wa, c_fault2 r wa wv hx z (Or.inr ⟨rfl, hp⟩)⟩)
    · exact CO1 (r := nI (decide (σ 2 x 8 = 0)).toNat) (ST_fault w hx) (ne9b _) (fun dE ad μ h mc ms post r h1 hp => ⟨t_7 r wa, c_fault3 r wa wv hx z (fun h' r' => jb (P := fun t => post t h') (hp ad h' rfl r'))⟩)
  · exact CO0 w (fun dE ad μ h mc ms post r h1 h2 hp => ⟨t_7 r wa, c_fault1 r wa wv q (Or.inl ⟨rfl, hp⟩)⟩)
theorem built_1 {σ : St} (w : WE σ) {c i j : Nat} (hi : i < σ 1 3 2) (hj : j < σ 1 3 2) (bi : built σ i c = true) (bj : built σ j c = true) : i = j := by
  refine w.2.1 i j hi hj (fun k hk => ?_)
  have g : ∀ n, built σ n c = true → σ 19 n k = sv σ c k := by
    intro n bn
    by_cases z : σ 19 n k = sv σ c k
    · exact z
    · have : false = built σ n c := all10_f hk (by simp [z])
      rw [← this] at bn
      cases bn
  rw [g i bi, g j bj]
theorem CO_build {σ : St} (w : WE σ) (a b c d e : Int32) : CO σ 5 a b c d e := by
  have wa := w.1.1.1
  have wv := w.1.1.2.1
  have n30 := wv.2.2.2.2.1.2.1
  have i40 := wv.2.2.2.2.1.2.2.1
  rcases NL_or (N := σ 1 2 2) (by omega) a with ⟨x, hx, rfl⟩ | q
  · by_cases hb : ∃ i, i < σ 1 3 2 ∧ built σ i x = true
    · obtain ⟨i, hi, bi⟩ := hb
      exact CO1 (r := nI i) (ST_refl w) (ne9 (by omega)) (fun dE ad μ h mc ms post r h1 hp => ⟨t_7 r wa, c_build r w.1.1 hx (fun j hj bj => by rw [← built_1 w hi hj bi bj]; exact hp ad h rfl r) (fun none => absurd (none i hi) (by rw [bi]; decide)) (fun none => absurd (none i hi) (by rw [bi]; decide))⟩)
    · have none : ∀ n, n < σ 1 3 2 → built σ n x = false := fun n hn => by
        cases e : built σ n x with
        | false => rfl
        | true => exact absurd ⟨n, hn, e⟩ hb
      by_cases hN : σ 1 3 2 < 40
      · exact CO1 (r := nI (σ 1 3 2)) (ST_img w hN none) (ne9 (by omega)) (fun dE ad μ h mc ms post r h1 hp => ⟨t_7 r wa, c_build r w.1.1 hx (fun j hj bj => absurd ⟨j, hj, bj⟩ hb) (fun _ z => absurd hN z) (fun _ _ ad' h' ah r' => hp ad' h' ah.1 r')⟩)
      · exact CO0 w (fun dE ad μ h mc ms post r h1 h2 hp => ⟨t_7 r wa, c_build r w.1.1 hx (fun j hj bj => absurd ⟨j, hj, bj⟩ hb) (fun _ _ => Or.inr ⟨rfl, hp⟩) (fun _ z => absurd z hN)⟩)
  · exact CO0 w (fun dE ad μ h mc ms post r h1 h2 hp => ⟨t_7 r wa, c_build1 r wa wv q (Or.inl ⟨rfl, hp⟩)⟩)
theorem CO_sign {σ : St} (w : WE σ) (a b c d e : Int32) : CO σ 6 a b c d e := by
  have wa := w.1.1.1
  have wv := w.1.1.2.1
  have n30 := wv.2.2.2.2.1.2.1
  have i40 := wv.2.2.2.2.1.2.2.1
  rcases NL_or (N := σ 1 3 2) (by omega) a with ⟨n, hn, rfl⟩ | q
  · rcases NL_or (N := σ 1 2 2) (by omega) b with ⟨x, hx, rfl⟩ | q
    · exact CO1 (r := nI (!sgnd σ n x).toNat) (ST_sign w hn (by omega)) (ne9b _) (fun dE ad μ h mc ms post r h1 hp => ⟨t_7 r wa, c_sign3 r wa wv hn hx (fun h' r' => jb (P := fun t => post t h') (hp ad h' rfl r'))⟩)
    · exact CO0 w (fun dE ad μ h mc ms post r h1 h2 hp => ⟨t_7 r wa, c_sign2 r wa wv hn q ⟨rfl, hp⟩⟩)
  · exact CO0 w (fun dE ad μ h mc ms post r h1 h2 hp => ⟨t_7 r wa, c_sign1 r wa wv q ⟨rfl, hp⟩⟩)
theorem CO_flash {σ : St} (w : WE σ) (a b c d e : Int32) : CO σ 7 a b c d e := by
  have wa := w.1.1.1
  have wv := w.1.1.2.1
  have g6 := w.1.2.1.2.2.2.2.2
  have n30 := wv.2.2.2.2.1.2.1
  have i40 := wv.2.2.2.2.1.2.2.1
  rcases NL_or (N := σ 1 2 2) (by omega) a with ⟨x, hx, rfl⟩ | q
  · have b5 := wv.2.2.2.2.2.2.2.2.2.1 x
    rcases NL_or (N := σ 1 3 2) (by omega) b with ⟨n, hn, rfl⟩ | q
    · by_cases z : canFl σ x
      · exact CO1 (r := nI (σ 2 x 5) - nI 1) (ST_flash w hx hn z.1) (ne9m (by omega)) (fun dE ad μ h mc ms post r h1 hp => ⟨t_7 r wa, c_flash4 r w.1.1 g6 hx hn z (fun h' r' => hp ad h' rfl r')⟩)
      · exact CO0 w (fun dE ad μ h mc ms post r h1 h2 hp => ⟨t_7 r wa, c_flash3 r wa wv g6 hx hn z (Or.inr ⟨rfl, hp⟩)⟩)
    · exact CO0 w (fun dE ad μ h mc ms post r h1 h2 hp => ⟨t_7 r wa, c_flash2 r wa wv hx q (Or.inl ⟨rfl, hp⟩)⟩)
  · exact CO0 w (fun dE ad μ h mc ms post r h1 h2 hp => ⟨t_7 r wa, c_flash1 r wa wv q (Or.inl ⟨rfl, hp⟩)⟩)
theorem p_takts {dE : Nat} {ad : Nat → Nat → Nat} {σ : St} {μ : Mu} {h : Hp} (r : RR dE ad σ μ h) (w : WE σ) (hb : σ 1 5 2 < 18000000) {t : Nat} (t1 : 1 ≤ t) (t20 : t ≤ 20) {mc ms : Nat} (h1 : 960 ≤ mc) (h2 : 9040 + 4 * (taktN t σ 9 5 0 - σ 9 5 0) ≤ ms) {post : Int32 → Hp → Prop} {px : String → Hp → Prop} (hp : ∀ ad' h', ad' 7 0 = ad 7 0 → RR dE ad' (taktN t σ) μ h' → post (nI (goneN t σ)) h') : wp_X5_takt dE mc ms h (ad 7 0) (nI t) post px :=
  p_takt1 r w.1 hb t1 t20 (by omega) (by omega) (fun ad' h' ag r' => hp ad' h' (AH_of ag).1 r')
theorem CO_takt {σ : St} (w : WE σ) (hb : σ 1 5 2 < 18000000) (q : Nat) (hq : 8 ≤ q) (a b c d e : Int32) : CO σ q a b c d e := by
  have wa := w.1.1.1
  have eq : ∀ dE mc ms h x post, wpC dE mc ms h x q a b c d e post = wp_L_takt dE mc ms h x a post := by
    intro dE mc ms h x post
    unfold wpC
    split <;> first | omega | rfl
  rcases NR_or (a := 1) (b := 20) (by decide) (by decide) a with ⟨k, k1, k20, rfl⟩ | z
  · refine ⟨nI (goneN k σ), taktN k σ, ST_le (ST_takt w hb k20) (by omega), Or.inr (ne9 (by have := goneN_le (σ := σ) k; omega)), fun dE ad μ h mc ms post r h1 h2 hp => ?_⟩
    rw [eq]
    exact ⟨1000, 9100 + 4 * (taktN k σ 9 5 0 - σ 9 5 0), by omega, by omega, t_7 r wa, p_takts r w hb k1 k20 (by omega) (by omega) hp⟩
  · refine CO0 w (fun dE ad μ h mc ms post r h1 h2 hp => ?_)
    rw [eq]
    exact ⟨1, 6, by omega, by omega, t_7 r wa, c_takt0 z (Nat.le_refl _) (Nat.le_refl _) ⟨rfl, hp⟩⟩
theorem CO_all {σ : St} (w : WE σ) (hb : σ 1 5 2 < 18000000) (q : Nat) (a b c d e : Int32) (he : q = 0 → b01 e) : CO σ q a b c d e := by
  match q, he with
  | 0, he => exact CO_kind w a b c d (he rfl)
  | 1, _ => exact CO_lot w a b c d e
  | 2, _ => exact CO_recall w a b c d e
  | 3, _ => exact CO_order w a b c d e
  | 4, _ => exact CO_fault w a b c d e
  | 5, _ => exact CO_build w a b c d e
  | 6, _ => exact CO_sign w a b c d e
  | 7, _ => exact CO_flash w a b c d e
  | q + 8, _ => exact CO_takt w hb (q + 8) (by omega) a b c d e
