/-! bits of the sets; two lines that are alike; a car that is so -/
theorem bv_ext {a b : Int32} (h : ∀ i, i < 32 → a.toBitVec.getLsbD i = b.toBitVec.getLsbD i) : a = b := Int32.toBitVec_inj.mp (BitVec.eq_of_getLsbD_eq h)
theorem sh_bit : ∀ n, n < 10 → ∀ j, j < 32 → (nI 1 <<< (nI n &&& 31)).toBitVec.getLsbD j = decide (j = n) := by decide +kernel
theorem setI_bit (f : Nat → Bool) : ∀ n, n ≤ 10 → ∀ j, j < 32 → (setI f n).toBitVec.getLsbD j = (decide (j < n) && f j) := by
  intro n
  induction n with
  | zero =>
    intro _ j _
    have e : (setI f 0).toBitVec = 0#32 := rfl
    rw [e]
    simp
  | succ n ih =>
    intro hn j hj
    have i0 := ih (by omega) j hj
    unfold setI
    cases e : f n with
    | true =>
      rw [if_pos rfl, Int32.toBitVec_or, BitVec.getLsbD_or, i0, sh_bit n (by omega) j hj]
      by_cases z : j = n
      · subst z; simp [e]
      · have : decide (j < n + 1) = decide (j < n) := by
          by_cases q : j < n
          · rw [decide_eq_true q, decide_eq_true (by omega)]
          · rw [decide_eq_false q, decide_eq_false (by omega)]
        rw [this, decide_eq_false z, Bool.or_false]
    | false =>
      rw [if_neg (by decide), i0]
      by_cases z : j = n
      · subst z; simp [e]
      · have : decide (j < n + 1) = decide (j < n) := by
          by_cases q : j < n
          · rw [decide_eq_true q, decide_eq_true (by omega)]
          · rw [decide_eq_false q, decide_eq_false (by omega)]
        rw [this]
theorem sh_k : ∀ k, k < 10 → ((nI k &&& 31).toBitVec.smod 32).toNat = k := by decide +kernel
theorem bit_c {x y : Int32} {k : Nat} (hk : k < 10) (h : x.toBitVec.getLsbD k = y.toBitVec.getLsbD k) : ((x >>> (nI k &&& 31)) &&& 1) = ((y >>> (nI k &&& 31)) &&& 1) := by
  refine bv_ext (fun i hi => ?_)
  rw [Int32.toBitVec_and, Int32.toBitVec_and, BitVec.getLsbD_and, BitVec.getLsbD_and, Int32.toBitVec_shiftRight, Int32.toBitVec_shiftRight, BitVec.getLsbD_sshiftRight', BitVec.getLsbD_sshiftRight', sh_k k hk]
  have e1 : (1 : Int32).toBitVec.getLsbD i = decide (i = 0) := by
    show (1#32).getLsbD i = _
    rw [BitVec.getLsbD_one]
    simp
  rw [e1]
  by_cases z : i = 0
  · subst z
    have k32 : k + 0 < 32 := by omega
    rw [if_pos k32, if_pos k32, Nat.add_zero, h]
  · rw [decide_eq_false z, Bool.and_false, Bool.and_false]
theorem m1_bit : ∀ i, i < 32 → (-1 : Int32).toBitVec.getLsbD i = true := by decide +kernel
theorem z_bit : ∀ i, i < 32 → (0 : Int32).toBitVec.getLsbD i = false := by decide +kernel
theorem sub_bits {f g : Nat → Bool} (h : ∀ k, k < 10 → f k = true → g k = true) : (setI f 10 &&& (setI g 10 ^^^ (-1 : Int32))) = 0 := by
  refine bv_ext (fun i hi => ?_)
  rw [Int32.toBitVec_and, BitVec.getLsbD_and, Int32.toBitVec_xor, BitVec.getLsbD_xor, setI_bit f 10 (Nat.le_refl _) i hi, setI_bit g 10 (Nat.le_refl _) i hi, m1_bit i hi, z_bit i hi]
  by_cases q : i < 10
  · rw [decide_eq_true q]
    cases ef : f i with
    | false => rfl
    | true => rw [h i q ef]; rfl
  · rw [decide_eq_false q]
    rfl
theorem setI_cong {f g : Nat → Bool} : ∀ n, (∀ k, k < n → f k = g k) → setI f n = setI g n := by
  intro n
  induction n with
  | zero => exact fun _ => rfl
  | succ n ih =>
    intro h
    unfold setI
    rw [h n (by omega), ih (fun k hk => h k (by omega))]
theorem lack_0 {σ : St} {c k : Nat} (z : σ 24 c k = 0) : lack σ c k = need σ c k := by
  unfold lack good
  rw [z]
  simp
theorem lack_n {σ : St} {c k : Nat} (h : lack σ c k = true) : need σ c k = true := by
  unfold lack at h
  simp only [Bool.and_eq_true] at h
  exact h.1
theorem nge0 {a : Nat} (h : a < 2147483648) : ¬ nI a < 0 := nI_pos h
theorem m1_lt {v n : Nat} (hv : v ≤ n) (hn : n < 2147483648) : ¬ nI n ≤ nI v - nI 1 := by
  rw [m1_eq]
  by_cases z : v = 0
  · rw [if_pos z]
    exact ix_nle (ng_lt (by decide) hn)
  · rw [if_neg z]
    exact nI_ge (by omega) hn
section LW
variable {dE : Nat} {ado adp : Nat → Nat → Nat} {σ : St} {μo μp : Mu} {h : Hp}
set_option maxHeartbeats 4000000 in
set_option maxRecDepth 100000 in
theorem alike_ok (ro : RR dE ado σ μo h) (rp : RR dE adp σ μp h) (w : WE σ) {mc ms : Nat} (h1 : 600 ≤ mc) (h2 : 3600 ≤ ms) {post : Int32 → Prop} {px : String → Prop} (hp : post 1) : wp_L_areAlike mc ms h (ado 7 0) (adp 7 0) post px := by
  have wa := w.1.1.1
  have wv := w.1.1.2.1
  have l40 := wv.2.2.2.2.1.1
  have c30 := wv.2.2.2.2.1.2.1
  unfold wp_L_areAlike wp_L_units wp_L_whereIs
  refine ⟨t_7 ro wa, c_takts ro wa ⟨t_7 rp wa, c_takts rp wa ?_⟩⟩
  intro J60 h60
  have key : J60 1 := by
    refine h60 _ ?_
    intro J63 h63
    have main : ∀ d k cc ss, k + d = 31 → k ≤ 30 → cc ≤ 14 * k → ss ≤ 84 * k → J63 1 (nI k) cc ss := by
      intro d
      induction d with
      | zero => intro k cc ss e h; omega
      | succ d ih =>
        intro k cc ss e hk b1 b2
        refine h63 _ _ _ _ ?_
        intro J171 h171
        have exit : ∀ cc ss, cc ≤ 421 → ss ≤ 2526 → J171 cc ss := by
          intro cc ss b1 b2
          refine h171 _ _ ?_
          intro J173 h173
          have lots : ∀ d l cc ss, l + d = 41 → l ≤ 40 → cc ≤ 421 + 3 * l → ss ≤ 2526 + 18 * l → J173 1 (nI l) cc ss := by
            intro d
            induction d with
            | zero => intro l cc ss e h; omega
            | succ d ih =>
              intro l cc ss e hl b1 b2
              refine h173 _ _ _ _ ?_
              intro J216 h216
              have done : ∀ cc ss, J216 cc ss := fun cc ss => h216 _ _ ⟨Or.inr rfl, hp⟩
              refine ⟨fun _ => done _ _, fun q => ⟨fun _ => done _ _, fun _ => ⟨by omega, by omega, t_7 ro wa, ?_⟩⟩⟩
              by_cases q2 : l < σ 1 1 2
              · refine c_units2 ro wa wv q2 ⟨fun z => absurd z (nge0 (by have := (wv.2.1 l).2.2.1; omega)), fun _ => ⟨by omega, by omega, t_7 rp wa, c_units2 rp wa wv q2 ⟨by omega, by omega, c_units2 ro wa wv q2 ?_⟩⟩⟩
                intro K hK
                have main : K 1 := hK _ (by rw [nI_1]; exact ih (l + 1) _ _ (by omega) (by omega) (by omega) (by omega))
                exact ⟨fun _ => main, fun z => absurd rfl z⟩
              · exact c_units1 ro wa wv (Or.inr (nI_le (by omega) (by omega))) ⟨rfl, fun _ => done _ _, fun z => absurd (by decide) z⟩
          exact lots 41 0 _ _ (by omega) (by omega) (by omega) (by omega)
        refine ⟨fun _ => exit _ _ (by omega) (by omega), fun q => ⟨fun _ => exit _ _ (by omega) (by omega), fun _ => ⟨by omega, by omega, t_7 ro wa, ?_⟩⟩⟩
        have k30 : k < 30 := by
          by_cases z : k < 30
          · exact z
          · exact absurd (nI_le (a := 30) (b := k) (by omega) (by omega)) q
        by_cases q2 : k < σ 1 2 2
        · refine c_whereIs2 ro wa wv q2 ⟨fun z => absurd z (nge0 (by have := (wv.2.2.1 k).1; omega)), fun _ => ⟨by omega, by omega, t_7 rp wa, c_whereIs2 rp wa wv q2 ⟨by omega, by omega, c_whereIs2 ro wa wv q2 ?_⟩⟩⟩
          intro K hK L _
          refine ⟨fun _ => ?_, fun z => absurd rfl z⟩
          refine ⟨by omega, by omega, c_stationOf2 ro wa wv q2 ⟨by omega, by omega, c_stationOf2 rp wa wv q2 ⟨fun _ => ?_, fun z => absurd rfl z⟩⟩⟩
          refine ⟨by omega, by omega, c_lacks2 ro wa wv q2 ⟨by omega, by omega, c_lacks2 rp wa wv q2 ⟨fun _ => ?_, fun z => absurd rfl z⟩⟩⟩
          refine ⟨by omega, by omega, c_imageOf2 ro wa wv q2 ⟨by omega, by omega, c_imageOf2 rp wa wv q2 ⟨fun _ => ?_, fun z => absurd rfl z⟩⟩⟩
          refine ⟨by omega, by omega, c_isTested2 ro wa wv q2 ⟨by omega, by omega, c_isTested2 rp wa wv q2 ⟨fun _ => ?_, fun z => absurd rfl z⟩⟩⟩
          refine ⟨by omega, by omega, c_isFit2 ro wa wv q2 ⟨by omega, by omega, c_isFit2 rp wa wv q2 ⟨fun _ => ?_, fun z => absurd rfl z⟩⟩⟩
          exact hK _ _ _ (by rw [nI_1]; exact ih (k + 1) _ _ (by omega) (by omega) (by omega) (by omega))
        · exact c_whereIs1 ro wa wv (Or.inr (nI_le (by omega) (by omega))) ⟨rfl, fun _ => exit _ _ (by omega) (by omega), fun z => absurd (by decide) z⟩
    exact main 31 0 _ _ (by omega) (by omega) (by omega) (by omega)
  intro J59 _
  exact ⟨fun _ => c_scrapped ro wa (c_scrapped rp wa ⟨fun _ => c_failed ro wa (c_failed rp wa ⟨fun _ => c_images ro wa (c_images rp wa ⟨fun _ => c_atLarge ro wa wv (c_atLarge rp wa wv ⟨fun _ => key, fun z => absurd rfl z⟩), fun z => absurd rfl z⟩), fun z => absurd rfl z⟩), fun z => absurd rfl z⟩), fun z => absurd rfl z⟩
end LW
section LC
variable {dE : Nat} {ad : Nat → Nat → Nat} {σ : St} {μ : Mu} {h : Hp}
set_option maxHeartbeats 4000000 in
set_option maxRecDepth 100000 in
theorem car_ok (r : RR dE ad σ μ h) (w : WE σ) {c : Nat} (hc : c < σ 1 2 2) {mc ms : Nat} (h1 : 60 ≤ mc) (h2 : 400 ≤ ms) {post : Int32 → Prop} {px : String → Prop} (hp : post 1) : wp_L_isCarSo mc ms h (ad 7 0) (nI c) post px := by
  have wa := w.1.1.1
  have wv := w.1.1.2.1
  have wpk := w.1.2.2
  have wl1 := w.1.2.1.1
  have wl6 := w.1.2.1.2.2.2.2.2
  have l40 := wv.2.2.2.2.1.1
  have c30 := wv.2.2.2.2.1.2.1
  have i40 := wv.2.2.2.2.1.2.2.1
  have b3 := (wv.2.2.1 c).1
  have b5 := wv.2.2.2.2.2.2.2.2.2.1 c
  obtain ⟨y0, y3, y2, y1⟩ := w.2.2 c
  unfold wp_L_isCarSo
  refine ⟨by omega, by omega, t_7 r wa, c_needs2 r wa wv hc ⟨by omega, by omega, c_lacks2 r wa wv hc ⟨by omega, by omega, c_whereIs2 r wa wv hc ⟨by omega, by omega, c_stationOf2 r wa wv hc ?_⟩⟩⟩⟩
  intro J29 h29
  have main : ∀ d k cc ss, k + d = 11 → k ≤ 10 → cc ≤ 4 + 4 * k → ss ≤ 24 + 24 * k → J29 (nI k) cc ss := by
    intro d
    induction d with
    | zero => intro k cc ss e h; omega
    | succ d ih =>
      intro k cc ss e hk b1 b2
      refine h29 _ _ _ ⟨fun q => ?_, fun q => ?_⟩
      · intro J193 h193
        have key : ∀ cc ss, cc ≤ 45 → ss ≤ 270 → J193 1 cc ss := by
          intro cc ss b1 b2
          refine h193 _ _ _ ?_
          intro J259 h259 J258 _
          have fin : ∀ cc ss, J259 1 cc ss := fun cc ss => h259 _ _ _ ⟨Or.inr rfl, hp⟩
          refine ⟨fun q => absurd q (by decide), fun _ => ⟨fun _ => ?_, fun q => absurd (sub_bits (fun k _ e => lack_n e)) q⟩⟩
          intro J226 h226
          have k226 : ∀ cc ss, cc ≤ 46 → ss ≤ 276 → J226 cc ss := by
            intro cc ss b1 b2
            refine h226 _ _ ⟨by omega, by omega, c_isFit2 r wa wv hc ?_⟩
            intro J242 h242
            have k242 : ∀ cc ss, cc ≤ 48 → ss ≤ 288 → J242 cc ss := fun cc ss b1 b2 => h242 _ _ ⟨by omega, by omega, c_imageOf2 r wa wv hc (c_images r wa ⟨fun q => absurd q (m1_lt b5 (by omega)), fun _ => fin _ _⟩)⟩
            refine ⟨fun _ => k242 _ _ (by omega) (by omega), fun q => ⟨by omega, by omega, c_imageOf2 r wa wv hc ⟨fun q2 => absurd q2 ?_, fun _ => k242 _ _ (by omega) (by omega)⟩⟩⟩
            have f1 : fitsS σ c = true := by
              cases e : fitsS σ c with
              | true => rfl
              | false => rw [e] at q; exact absurd rfl q
            have f2 : σ 2 c 5 ≠ 0 := by
              unfold fitsS at f1
              simp only [Bool.and_eq_true, decide_eq_true_eq] at f1
              exact f1.1.1.1
            rw [m1_eq, if_neg f2]
            exact nge0 (by omega)
          refine ⟨fun q => ⟨by omega, by omega, c_isTested2 r wa wv hc ?_⟩, fun _ => k226 _ _ (by omega) (by omega)⟩
          have e3 : σ 2 c 3 = 0 := (nI_eq (b := 0) (by omega) (by omega)).mp q
          obtain ⟨e6, e24⟩ := y0 e3
          refine ⟨fun _ => ⟨fun _ => k226 _ _ (by omega) (by omega), fun q2 => absurd (setI_cong 10 (fun k _ => lack_0 (e24 k))) q2⟩, fun q2 => absurd (by rw [e6]; rfl) q2⟩
        have bb : cc ≤ 44 ∧ ss ≤ 264 := by omega
        refine ⟨fun q => ?_, fun q1 => ⟨fun q => ?_, fun q2 => ⟨fun _ => key _ _ (by omega) (by omega), fun q3 => absurd ?_ q3⟩⟩⟩
        · have e3 : σ 2 c 3 = 1 := (nI_eq (b := 1) (by omega) (by omega)).mp q
          have e25 := y1 e3
          have hs : σ 2 c 4 < 8 := (wl1 _ (by omega)).1
          intro J142 _
          refine ⟨fun z => absurd z (nge0 (by omega)), fun _ => ⟨fun z => absurd z (nI_ge (b := 8) hs (by omega)), fun _ => ⟨by omega, by omega, c_carAt2 r wa wv hs ⟨fun _ => key _ _ (by omega) (by omega), fun z => absurd ?_ z⟩⟩⟩⟩
          rw [e25, nI_subN (by omega)]
          rfl
        · have e3 : σ 2 c 3 = 2 := (nI_eq (b := 2) (by omega) (by omega)).mp q
          have hs := y2 e3
          intro J178 _
          refine ⟨fun z => absurd z (nge0 (by omega)), fun _ => ⟨fun z => absurd z (nI_ge (b := 6) (by omega) (by omega)), fun _ => ⟨by omega, by omega, c_carAt2 r wa wv (by omega) ⟨fun z => ?_, fun _ => key _ _ (by omega) (by omega)⟩⟩⟩⟩
          exfalso
          have bs := wv.2.2.2.2.2.2.2.2.2.2 (σ 2 c 4)
          by_cases z0 : σ 25 0 (σ 2 c 4) = 0
          · rw [z0, m1_eq, if_pos rfl] at z
            exact (nI_NNeq (by omega)).mp z
          · rw [nI_subN (by omega)] at z
            have ec := (nI_eq (by omega) (by omega)).mp z
            have := (wl1 _ z0).2.2.1
            rw [ec, e3] at this
            omega
        · have e3 : σ 2 c 3 = 0 ∨ σ 2 c 3 = 3 := by
            have n1 : σ 2 c 3 ≠ 1 := fun z => q1 (by rw [z]; rfl)
            have n2 : σ 2 c 3 ≠ 2 := fun z => q2 (by rw [z]; rfl)
            omega
          rw [(wl6 c hc).2 e3]
          exact lm1.symm
      · have k10 : k < 10 := by
          by_cases z : k < 10
          · exact z
          · exact absurd (nI_le (a := 10) (b := k) (by omega) (by omega)) q
        have b24 := wv.2.2.2.2.2.2.2.2.1 c k
        refine ⟨by omega, by omega, c_lotIn3 r wa wv hc k10 ⟨by omega, by omega, c_picks3 r wa wv wpk hc k10 ?_⟩⟩
        intro J95 h95 J94 _
        have go : J95 1 := h95 _ ⟨fun z => absurd z (by decide), fun _ => by rw [nI_1]; exact ih (k + 1) _ _ (by omega) (by omega) (by omega) (by omega)⟩
        refine ⟨fun _ => ⟨fun z => absurd z ?_, fun _ => ⟨fun z => absurd z (m1_lt (n := 40) (by omega) (by omega)), fun _ K hK => ⟨fun _ => hK go, fun z => ⟨fun _ => hK go, fun z2 => absurd ?_ z2⟩⟩⟩⟩, fun z => absurd rfl z⟩
        · rw [m1_eq]
          by_cases z0 : σ 24 c k = 0
          · rw [if_pos z0]; decide
          · rw [if_neg z0]
            exact fun z => nge0 (a := σ 24 c k - 1) (by omega) (Int32.lt_trans z (by decide))
        · have z0 : σ 24 c k = 0 := by
            by_cases z0 : σ 24 c k = 0
            · exact z0
            · exfalso
              rw [m1_eq, if_neg z0] at z
              exact z (nI_le (a := 0) (Nat.zero_le _) (by omega))
          refine bit_c k10 ?_
          rw [setI_bit _ 10 (Nat.le_refl _) k (by omega), setI_bit _ 10 (Nat.le_refl _) k (by omega), lack_0 z0]
  exact main 11 0 _ _ (by omega) (by omega) (by omega) (by omega)
theorem cnt_mono {f g : Nat → Bool} (h : ∀ k, f k = true → g k = true) : ∀ n, cnt f n ≤ cnt g n := by
  intro n
  induction n with
  | zero => exact Nat.le_refl _
  | succ n ih =>
    unfold cnt
    cases e : f n with
    | true => rw [h n e]; simp only [if_true]; omega
    | false => simp only [Bool.false_eq_true, if_false]; split <;> omega
def leftB (σ : St) (c : Nat) : Bool := decide (σ 2 c 3 = 3)
set_option maxHeartbeats 4000000 in
set_option maxRecDepth 100000 in
theorem line_ok (r : RR dE ad σ μ h) (w : WE σ) {mc ms : Nat} (h1 : 2000 ≤ mc) (h2 : 13500 ≤ ms) {post : Int32 → Prop} {px : String → Prop} (hp : post 1) : wp_L_isLineSo mc ms h (ad 7 0) post px := by
  have wa := w.1.1.1
  have wv := w.1.1.2.1
  have wl1 := w.1.2.1.1
  have c30 := wv.2.2.2.2.1.2.1
  have i40 := wv.2.2.2.2.1.2.2.1
  unfold wp_L_isLineSo wp_L_whereIs
  intro J6 h6
  have main : ∀ d k cc ss, k + d = 31 → k ≤ σ 1 2 2 → cc ≤ 64 * k → ss ≤ 424 * k → J6 (nI k) (nI (cnt (leftB σ) k)) (nI k) cc ss := by
    intro d
    induction d with
    | zero => intro k cc ss e h; omega
    | succ d ih =>
      intro k cc ss e hk b1 b2
      refine h6 _ _ _ _ _ ?_
      intro J73 h73
      have exit : k = σ 1 2 2 → ∀ cc ss, cc ≤ 1921 → ss ≤ 12726 → J73 cc ss := by
        intro ek cc ss b1 b2
        refine h73 _ _ ?_
        intro J75 h75
        have sts : ∀ d s cc ss, s + d = 9 → s ≤ 8 → cc ≤ 1921 + 3 * s → ss ≤ 12726 + 18 * s → J75 (nI s) cc ss := by
          intro d
          induction d with
          | zero => intro s cc ss e h; omega
          | succ d ih =>
            intro s cc ss e hs b1 b2
            refine h75 _ _ _ ⟨fun q => ⟨t_7 r wa, c_atLarge r wa wv ?_⟩, fun q => ?_⟩
            · have b := cnt_le (largeB σ) (σ 1 2 2)
              have b' := cnt_le (leftB σ) k
              have m := cnt_mono (f := largeB σ) (g := leftB σ) (fun x hx => by
                unfold largeB at hx
                simp only [Bool.and_eq_true] at hx
                exact hx.1) (σ 1 2 2)
              intro K hK L _
              refine ⟨fun z => absurd z (nge0 (by omega)), fun _ => c_atLarge r wa wv ⟨fun z => absurd z (nI_nlt (by rw [ek]; exact m) (by omega)), fun _ => c_images r wa ⟨fun z => absurd z (nI_nlt (a := 40) i40 (by omega)), fun _ => hK _ ⟨Or.inr rfl, hp⟩⟩⟩⟩
            · have s8 : s < 8 := by
                by_cases z : s < 8
                · exact z
                · exact absurd (nI_le (a := 8) (b := s) (by omega) (by omega)) q
              have bs := wv.2.2.2.2.2.2.2.2.2.2 s
              refine ⟨by omega, by omega, t_7 r wa, c_carAt2 r wa wv s8 ?_⟩
              intro J119 _
              refine ⟨fun z => absurd z (m1_lt (by omega) (by omega)), fun _ => ?_⟩
              intro J121 h121
              have nx : ∀ cc ss, cc ≤ 1921 + 3 * (s + 1) → ss ≤ 12726 + 18 * (s + 1) → J121 cc ss := fun cc ss b1 b2 => h121 _ _ (by rw [nI_1]; exact ih (s + 1) _ _ (by omega) (by omega) b1 b2)
              refine ⟨fun _ => nx _ _ (by omega) (by omega), fun z => ⟨by omega, by omega, ?_⟩⟩
              have z0 : σ 25 0 s ≠ 0 := fun z0 => z (by rw [z0]; decide)
              obtain ⟨-, g2, g3, g4⟩ := wl1 s z0
              have hx : σ 25 0 s - 1 < σ 1 2 2 := by omega
              rw [nI_subN (by omega)]
              refine c_whereIs2 r wa wv hx ⟨fun _ => ⟨by omega, by omega, c_stationOf2 r wa wv hx ⟨fun _ => nx _ _ (by omega) (by omega), fun z => absurd (by rw [g4]) z⟩⟩, fun z => absurd (by rw [g3]; rfl) z⟩
        exact sts 9 0 _ _ (by omega) (by omega) (by omega) (by omega)
      have bk : cc ≤ 1920 ∧ ss ≤ 12720 := by omega
      refine ⟨fun q => exit ?_ _ _ (by omega) (by omega), fun q => ⟨by omega, by omega, t_7 r wa, ?_⟩⟩
      · by_cases z : k < 30
        · exact absurd q (nI_ge (b := 30) z (by omega))
        · omega
      by_cases q2 : k < σ 1 2 2
      · have b3 := (wv.2.2.1 k).1
        refine c_whereIs2 r wa wv q2 ⟨fun z => absurd z (nge0 (by omega)), fun _ => ⟨60, 400, by omega, by omega, car_ok r w q2 (Nat.le_refl _) (Nat.le_refl _) ?_⟩⟩
        intro J48 _
        refine ⟨fun z => absurd z (by decide), fun _ => ⟨by omega, by omega, t_7 r wa, c_whereIs2 r wa wv q2 ?_⟩⟩
        intro J50 h50
        have nx : ∀ cc' ss', cc' ≤ cc + 63 → ss' ≤ ss + 418 → J50 cc' ss' := by
          intro cc' ss' b1 b2
          refine h50 _ _ ⟨by omega, by omega, c_whereIs2 r wa wv q2 ?_⟩
          intro K hK
          have stp : ∀ b : Bool, leftB σ k = b → K (nI b.toNat) := fun b eb => hK _ (by
            have e1 : nI (cnt (leftB σ) k) + nI b.toNat = nI (cnt (leftB σ) (k + 1)) := by
              rw [nI_add]
              congr 1
              show _ = if leftB σ k = true then cnt (leftB σ) k + 1 else cnt (leftB σ) k
              rw [eb]
              cases b <;> rfl
            rw [e1, nI_1]
            exact ih (k + 1) _ _ (by omega) (by omega) (by omega) (by omega))
          exact ⟨fun z => stp true (decide_eq_true ((nI_eq (b := 3) (by omega) (by omega)).mp z)), fun z => stp false (decide_eq_false (fun e => z (by rw [e]; rfl)))⟩
        refine ⟨fun z => ⟨by omega, by omega, c_isTested2 r wa wv q2 ⟨fun z2 => ?_, fun _ => nx _ _ (by omega) (by omega)⟩⟩, fun _ => nx _ _ (by omega) (by omega)⟩
        have e3 : σ 2 k 3 = 3 := (nI_eq (b := 3) (by omega) (by omega)).mp z
        have b6 := (wv.2.2.1 k).2.1
        exact absurd ((nI_eq (b := 0) (by omega) (by omega)).mp z2) ((w.2.2 k).2.1 e3)
      · exact c_whereIs1 r wa wv (Or.inr (nI_le (by omega) (by omega))) ⟨rfl, fun _ => exit (by omega) _ _ (by omega) (by omega), fun z => absurd (by decide) z⟩
  exact main 31 0 _ _ (by omega) (Nat.zero_le _) (by omega) (by omega)
end LC
