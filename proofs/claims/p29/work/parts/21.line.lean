/-! the line's questions, told by the state -/
theorem lp {J B : Int32 → Prop} (hJ : ∀ v, B v → J v) (N : Nat) (I : Nat → Prop) (h0 : I 0) (hs : ∀ k, k ≤ N → I k → (k < N → I (k + 1) → J (nI (k + 1))) → B (nI k)) : J (nI 0) := by
  have H : ∀ d k, k + d = N → I k → J (nI k) := by
    intro d
    induction d with
    | zero => exact fun k e hi => hJ _ (hs k (by omega) hi (fun hk _ => absurd hk (by omega)))
    | succ d ih => exact fun k e hi => hJ _ (hs k (by omega) hi (fun hk hi2 => ih (k + 1) (by omega) hi2))
  exact H N 0 (by omega) h0
theorem lpA {α : Type} {J B : α → Int32 → Prop} (hJ : ∀ x v, B x v → J x v) (N : Nat) (I : Nat → α → Prop) {x : α} (h0 : I 0 x) (hs : ∀ k x, k ≤ N → I k x → (∀ y, k < N → I (k + 1) y → J y (nI (k + 1))) → B x (nI k)) : J x (nI 0) := by
  have H : ∀ d k x, k + d = N → I k x → J x (nI k) := by
    intro d
    induction d with
    | zero => exact fun k x e hi => hJ _ _ (hs k x (by omega) hi (fun _ hk _ => absurd hk (by omega)))
    | succ d ih => exact fun k x e hi => hJ _ _ (hs k x (by omega) hi (fun y hk hi2 => ih (k + 1) y (by omega) hi2))
  exact H N 0 x (by omega) h0
def need (σ : St) (c k : Nat) : Bool := decide ((nI (σ 2 c 1) &&& nI (σ 4 k 1)) = nI (σ 4 k 1)) && decide ((nI (σ 2 c 1) &&& nI (σ 4 k 2)) = nI 0)
def good (σ : St) (c k : Nat) : Bool := decide (σ 24 c k ≠ 0) && decide (σ 5 (σ 24 c k - 1) 4 = 0)
def lack (σ : St) (c k : Nat) : Bool := need σ c k && !good σ c k
def setI (f : Nat → Bool) : Nat → Int32
  | 0 => nI 0
  | n + 1 => if f n = true then setI f n ||| (nI 1 <<< (nI n &&& 31)) else setI f n
/-- the lowest station at which a car lacks something, 8 with none -/
def low (σ : St) (c : Nat) : Nat → Nat
  | 0 => 8
  | n + 1 => if lack σ c n = true then (if σ 4 n 0 < low σ c n then σ 4 n 0 else low σ c n) else low σ c n
def sv (σ : St) (c k : Nat) : Nat := if σ 24 c k = 0 ∨ σ 4 k 3 = 0 then 0 else σ 5 (σ 24 c k - 1) 2
def all10 (f : Nat → Bool) : Bool := (List.range 10).all f
theorem all10_t {f : Nat → Bool} (h : ∀ k, k < 10 → f k = true) : true = all10 f := by
  unfold all10
  symm
  rw [List.all_eq_true]
  exact fun k hk => h k (List.mem_range.mp hk)
theorem all10_f {f : Nat → Bool} {k : Nat} (hk : k < 10) (h : f k = false) : false = all10 f := by
  symm
  cases e : all10 f with
  | false => rfl
  | true =>
    unfold all10 at e
    rw [List.all_eq_true] at e
    have := e k (List.mem_range.mpr hk)
    rw [h] at this
    cases this
def built (σ : St) (n c : Nat) : Bool := all10 (fun k => decide (σ 19 n k = sv σ c k))
def lackSw (σ : St) (c : Nat) : Bool := !all10 (fun k => !(decide (σ 4 k 3 ≠ 0) && lack σ c k))
def sgnd (σ : St) (n c : Nat) : Bool := !decide ((nI (σ 3 n 2) &&& (nI 1 <<< (nI c &&& 31))) = nI 0)
def fitsS (σ : St) (c : Nat) : Bool := decide (σ 2 c 5 ≠ 0) && sgnd σ (σ 2 c 5 - 1) c && built σ (σ 2 c 5 - 1) c && !lackSw σ c
def lackAt (σ : St) (c s : Nat) : Bool := !all10 (fun k => !(decide (σ 4 k 0 = s) && lack σ c k))
def doneS (σ : St) (c s : Nat) : Bool := if s = 6 then decide (σ 2 c 6 ≠ 0) else if s = 5 then decide (σ 2 c 5 ≠ 0) else !lackAt σ c s
def recU (σ : St) (c : Nat) : Bool := !all10 (fun k => !(decide (σ 24 c k ≠ 0) && decide (σ 5 (σ 24 c k - 1) 4 ≠ 0)))
def cnt (f : Nat → Bool) : Nat → Nat
  | 0 => 0
  | n + 1 => if f n = true then cnt f n + 1 else cnt f n
/-- what values there are -/
def WV (σ : St) : Prop :=
  (∀ k, σ 4 k 0 < 5 ∧ σ 4 k 3 ≤ 1) ∧
  (∀ l, σ 5 l 1 < 10 ∧ σ 5 l 2 < 100 ∧ σ 5 l 3 ≤ 50 ∧ σ 5 l 4 ≤ 1) ∧
  (∀ c, σ 2 c 3 ≤ 3 ∧ σ 2 c 6 ≤ 1 ∧ σ 2 c 7 ≤ 1 ∧ σ 2 c 8 ≤ 1 ∧ (σ 2 c 4 < 8 ∨ σ 2 c 4 = NN) ∧ σ 2 c 9 < 8) ∧
  (∀ n k, σ 19 n k < 100) ∧
  (σ 1 1 2 ≤ 40 ∧ σ 1 2 2 ≤ 30 ∧ σ 1 3 2 ≤ 40 ∧ σ 1 4 2 ≤ 30) ∧
  (∀ l, l < σ 1 1 2 → σ 5 l 0 = l) ∧ (∀ c, c < σ 1 2 2 → σ 2 c 0 = c) ∧ (∀ n, n < σ 1 3 2 → σ 3 n 0 = n) ∧
  (∀ c k, σ 24 c k ≤ σ 1 1 2) ∧ (∀ c, σ 2 c 5 ≤ σ 1 3 2) ∧ (∀ s, σ 25 0 s ≤ σ 1 2 2)
section LQ
variable {dE : Nat} {ad : Nat → Nat → Nat} {ρ : St} {μ : Mu} {h : Hp}
theorem am0 {t v : Nat} (z : v = 0) : am ad (orl t v) = none := by rw [z]; rfl
theorem am1 {t v : Nat} (z : v ≠ 0) : am ad (orl t v) = some (ad t (v - 1)) := by unfold orl; rw [if_neg z]; rfl
theorem cap0 (w : WA ρ) {i j : Nat} (h1 : 1 ≤ i) (h5 : i ≤ 5) (hj : j < ρ 1 i 2) : ρ 9 i 0 ≠ 0 := by
  have := (w.2.2.2.2.2.2.2.2 i h1 h5).2.1
  omega
theorem siz (w : WA ρ) {i : Nat} (h1 : 1 ≤ i) (h5 : i ≤ 5) : ρ 1 i 2 ≤ ρ 9 i 0 ∧ ρ 9 i 0 < 100000000 := (w.2.2.2.2.2.2.2.2 i h1 h5).2

theorem p_get (r : RR dE ad ρ μ h) (w : WA ρ) {i j : Nat} (h1 : 1 ≤ i) (h5 : i ≤ 5) (hj : j < ρ 1 i 2) {post : Nat → Prop} (hp : post (ad (elm ρ i j).1 (elm ρ i j).2)) : wp_Jx4a65c_get_915e3 h (ad 1 i) (nI j) post := by
  have h0 := cap0 w h1 h5 hj
  obtain ⟨s1, s2⟩ := siz w h1 h5
  have hj2 : j < ρ 9 i 0 := by omega
  unfold wp_Jx4a65c_get_915e3 wp_J15_checkIndex_7cf53 wp_J3_checkIndex_8e157 wp_Jx4a65c_elementData_915e3
  simp (disch := omega) only [l0, l1, l2, l3, l4, l5, l6, l7, l8, l10, l20, l30, l40, l50, l99, l255, lm1, ex_nI, nI_add, nI_leI, nI_ltI, nI_eq, nI_eqNN, nI_NNeq, tN0, exists_eq_left', exists_eq_left, forall_eq, true_and, and_true, Option.some.injEq, reduceCtorEq, false_implies, implies_true, forall_const, not_false_eq_true, not_true_eq_false, t_1 r w h1 h5, i_1_2 r w h1 h5, r_1 r w h1 h5 h0, t_26 r w h1 h5 h0, n_26 r w h1 h5 h0, r_26 r w h1 h5 h0 hj, hj, hj2, Nat.not_lt_zero]
  exact hp
theorem p_getL (r : RR dE ad ρ μ h) (w : WA ρ) {j : Nat} (hj : j < ρ 1 1 2) {post : Nat → Prop} (hp : post (ad 5 j)) : wp_Jx4a65c_get_915e3 h (ad 1 1) (nI j) post := by
  exact p_get r w (by decide) (by decide) hj hp
theorem p_getC (r : RR dE ad ρ μ h) (w : WA ρ) {j : Nat} (hj : j < ρ 1 2 2) {post : Nat → Prop} (hp : post (ad 2 j)) : wp_Jx4a65c_get_915e3 h (ad 1 2) (nI j) post := by
  exact p_get r w (by decide) (by decide) hj hp
theorem p_getI (r : RR dE ad ρ μ h) (w : WA ρ) {j : Nat} (hj : j < ρ 1 3 2) {post : Nat → Prop} (hp : post (ad 3 j)) : wp_Jx4a65c_get_915e3 h (ad 1 3) (nI j) post := by
  exact p_get r w (by decide) (by decide) hj hp
theorem p_getP (r : RR dE ad ρ μ h) (w : WA ρ) {j : Nat} (hj : j < ρ 1 5 2) {post : Nat → Prop} (hp : post (ad 6 j)) : wp_Jx4a65c_get_915e3 h (ad 1 5) (nI j) post := by
  exact p_get r w (by decide) (by decide) hj hp
theorem p_getW (r : RR dE ad ρ μ h) (w : WA ρ) {j : Nat} (hj : j < ρ 1 4 2) {post : Nat → Prop} (hp : post (ad 2 (ρ 26 4 j))) : wp_Jx4a65c_get_915e3 h (ad 1 4) (nI j) post := by
  exact p_get r w (by decide) (by decide) hj hp
theorem p_need (r : RR dE ad ρ μ h) (w : WA ρ) {c k : Nat} (hk : k < 10) {post : Int32 → Prop} (hp : ∀ b, b = need ρ c k → post (nI b.toNat)) : wp_X2_isNeededWith h (ad 4 k) (nI (ρ 2 c 1)) post := by
  unfold wp_X2_isNeededWith
  simp (disch := omega) only [l0, l1, l2, l3, l4, l5, l6, l7, l8, l10, l20, l30, l40, l50, l99, l255, lm1, ex_nI, nI_add, nI_leI, nI_ltI, nI_eq, nI_eqNN, nI_NNeq, tN0, exists_eq_left', exists_eq_left, forall_eq, true_and, and_true, Option.some.injEq, reduceCtorEq, false_implies, implies_true, forall_const, not_false_eq_true, not_true_eq_false, t_4 r w hk, i_4_1 r w hk, i_4_2 r w hk]
  intro J hJ K hK
  refine ⟨fun e1 => ⟨fun e2 => hJ _ ⟨b01_b true, hp true ?_⟩, fun e2 => hK (hJ _ ⟨b01_b false, hp false ?_⟩)⟩, fun e1 => hK (hJ _ ⟨b01_b false, hp false ?_⟩)⟩
  · simp [need, e1, e2]
  · simp [need, e1, e2]
  · simp [need, e1]
theorem p_good (r : RR dE ad ρ μ h) (w : WA ρ) (v : WV ρ) {c k : Nat} (hc : c < ρ 1 2 2) (hk : k < 10) {post : Int32 → Prop} (hp : ∀ b, b = good ρ c k → post (nI b.toNat)) : wp_X0_hasGoodUnit h (ad 2 c) (nI k) post := by
  unfold wp_X0_hasGoodUnit
  by_cases z : ρ 24 c k = 0
  · simp (disch := omega) only [l0, l1, l2, l3, l4, l5, l6, l7, l8, l10, l20, l30, l40, l50, l99, l255, lm1, ex_nI, nI_add, nI_leI, nI_ltI, nI_eq, nI_eqNN, nI_NNeq, tN0, exists_eq_left', exists_eq_left, forall_eq, true_and, and_true, Option.some.injEq, reduceCtorEq, false_implies, implies_true, forall_const, not_false_eq_true, not_true_eq_false, t_2 r w hc, r_2_2 r w hc, t_24 r w hc, n_24 r w hc, r_24 r w hc, hk, am0 z]
    intro J hJ K hK
    exact hK (hJ _ ⟨b01_b false, hp false (by simp [good, z])⟩)
  · have hl : ρ 24 c k - 1 < ρ 1 1 2 := by have := v.2.2.2.2.2.2.2.2.1 c k; omega
    have h4 := (v.2.1 (ρ 24 c k - 1)).2.2.2
    simp (disch := omega) only [l0, l1, l2, l3, l4, l5, l6, l7, l8, l10, l20, l30, l40, l50, l99, l255, lm1, ex_nI, nI_add, nI_leI, nI_ltI, nI_eq, nI_eqNN, nI_NNeq, tN0, exists_eq_left', exists_eq_left, forall_eq, true_and, and_true, Option.some.injEq, reduceCtorEq, false_implies, implies_true, forall_const, not_false_eq_true, not_true_eq_false, t_2 r w hc, r_2_2 r w hc, t_24 r w hc, n_24 r w hc, r_24 r w hc, hk, am1 z, forall_eq', t_5 r w hl, i_5_4 r w hl, l0]
    intro J hJ K hK
    refine ⟨fun e => hJ _ ⟨b01_b true, hp true ?_⟩, fun e => hK (hJ _ ⟨b01_b false, hp false ?_⟩)⟩
    · simp [good, z, e]
    · simp [good, z, e]
theorem p_lack (r : RR dE ad ρ μ h) (w : WA ρ) (v : WV ρ) {c k : Nat} (hc : c < ρ 1 2 2) (hk : k < 10) {post : Int32 → Prop} (hp : ∀ b, b = lack ρ c k → post (nI b.toNat)) : wp_X5_isLacking h (ad 7 0) (ad 2 c) (nI k) post := by
  unfold wp_X5_isLacking
  simp (disch := omega) only [l0, l1, l2, l3, l4, l5, l6, l7, l8, l10, l20, l30, l40, l50, l99, l255, lm1, ex_nI, nI_add, nI_leI, nI_ltI, nI_eq, nI_eqNN, nI_NNeq, tN0, exists_eq_left', exists_eq_left, forall_eq, true_and, and_true, Option.some.injEq, reduceCtorEq, false_implies, implies_true, forall_const, not_false_eq_true, not_true_eq_false, t_7 r w, r_7_0 r w, t_23 r w, n_23 r w, r_23 r w hk, hk, t_2 r w hc, i_2_1 r w hc, t_4 r w hk]
  refine p_need r w hk (fun b hb => ?_)
  simp (disch := omega) only [l0, l1, l2, l3, l4, l5, l6, l7, l8, l10, l20, l30, l40, l50, l99, l255, lm1, ex_nI, nI_add, nI_leI, nI_ltI, nI_eq, nI_eqNN, nI_NNeq, tN0, exists_eq_left', exists_eq_left, forall_eq, true_and, and_true, Option.some.injEq, reduceCtorEq, false_implies, implies_true, forall_const, not_false_eq_true, not_true_eq_false, ]
  intro J hJ K hK
  refine ⟨fun e => hK (hJ _ ⟨b01_b false, hp false ?_⟩), fun e => p_good r w v hc hk (fun b2 hb2 => ?_)⟩
  · simp [lack, ← hb, e]
  · simp (disch := omega) only [l0, l1, l2, l3, l4, l5, l6, l7, l8, l10, l20, l30, l40, l50, l99, l255, lm1, ex_nI, nI_add, nI_leI, nI_ltI, nI_eq, nI_eqNN, nI_NNeq, tN0, exists_eq_left', exists_eq_left, forall_eq, true_and, and_true, Option.some.injEq, reduceCtorEq, false_implies, implies_true, forall_const, not_false_eq_true, not_true_eq_false, ]
    have e1 : b = true := by simpa using e
    refine ⟨fun e2 => hJ _ ⟨b01_b true, hp true ?_⟩, fun e2 => hK (hJ _ ⟨b01_b false, hp false ?_⟩)⟩
    · simp [lack, ← hb, ← hb2, e1, e2]
    · simp [lack, ← hb, ← hb2, e1, e2]
theorem p_low (r : RR dE ad ρ μ h) (w : WA ρ) (v : WV ρ) {c : Nat} (hc : c < ρ 1 2 2) {post : Int32 → Prop} (hp : post (nI (low ρ c 10))) : wp_X5_lowestLackingStation h (ad 7 0) (ad 2 c) post := by
  unfold wp_X5_lowestLackingStation
  intro J hJ
  have lo8 : ∀ n, low ρ c n ≤ 8 := by
    intro n
    induction n with
    | zero => exact Nat.le_refl 8
    | succ n ih =>
      have := (v.1 n).1
      unfold low
      split
      · split <;> omega
      · exact ih
  refine lpA (J := J) hJ 10 (fun k x => x = nI (low ρ c k)) rfl (fun k x hk e hs => ?_)
  subst e
  by_cases hk : k < 10
  · have h10 : ¬ (10 ≤ k) := by omega
    have l8 := lo8 k
    have s5 := (v.1 k).1
    simp (disch := omega) only [l0, l1, l2, l3, l4, l5, l6, l7, l8, l10, l20, l30, l40, l50, l99, l255, lm1, ex_nI, nI_add, nI_leI, nI_ltI, nI_eq, nI_eqNN, nI_NNeq, tN0, exists_eq_left', exists_eq_left, forall_eq, true_and, and_true, Option.some.injEq, reduceCtorEq, false_implies, implies_true, forall_const, not_false_eq_true, not_true_eq_false, t_7 r w, h10]
    refine p_lack r w v hc hk (fun b hb => ?_)
    simp (disch := omega) only [l0, l1, l2, l3, l4, l5, l6, l7, l8, l10, l20, l30, l40, l50, l99, l255, lm1, ex_nI, nI_add, nI_leI, nI_ltI, nI_eq, nI_eqNN, nI_NNeq, tN0, exists_eq_left', exists_eq_left, forall_eq, true_and, and_true, Option.some.injEq, reduceCtorEq, false_implies, implies_true, forall_const, not_false_eq_true, not_true_eq_false, t_7 r w, r_7_0 r w, t_23 r w, n_23 r w, r_23 r w hk, hk, t_4 r w hk, i_4_0 r w hk]
    intro K hK
    refine ⟨fun e => hK _ (hs _ hk ?_), fun e => hK _ (hs _ hk ?_)⟩
    · have e' : ¬ lack ρ c k = true := by rw [← hb, e]; decide
      have e3 : low ρ c (k + 1) = low ρ c k := by show (if lack ρ c k = true then _ else _) = _; rw [if_neg e']
      rw [e3]
    · have e' : lack ρ c k = true := by rw [← hb]; simpa using e
      have e3 : low ρ c (k + 1) = if ρ 4 k 0 < low ρ c k then ρ 4 k 0 else low ρ c k := by show (if lack ρ c k = true then _ else _) = _; rw [if_pos e']
      rw [e3]
      by_cases q : ρ 4 k 0 < low ρ c k
      · rw [if_pos q, if_pos q]
      · rw [if_neg q, if_neg q]
  · have h10 : 10 ≤ k := by omega
    have : k = 10 := by omega
    subst this
    simp (disch := omega) only [l0, l1, l2, l3, l4, l5, l6, l7, l8, l10, l20, l30, l40, l50, l99, l255, lm1, ex_nI, nI_add, nI_leI, nI_ltI, nI_eq, nI_eqNN, nI_NNeq, tN0, exists_eq_left', exists_eq_left, forall_eq, true_and, and_true, Option.some.injEq, reduceCtorEq, false_implies, implies_true, forall_const, not_false_eq_true, not_true_eq_false, h10]
    exact hp
theorem p_mask (r : RR dE ad ρ μ h) (w : WA ρ) (v : WV ρ) {c : Nat} (hc : c < ρ 1 2 2) {post : Int32 → Prop} (hp : post (setI (lack ρ c) 10)) : wp_X5_lackingKinds h (ad 7 0) (ad 2 c) post := by
  unfold wp_X5_lackingKinds
  intro J hJ
  refine lpA (J := J) hJ 10 (fun k x => x = setI (lack ρ c) k) rfl (fun k x hk e hs => ?_)
  subst e
  by_cases hk : k < 10
  · have h10 : ¬ (10 ≤ k) := by omega
    simp (disch := omega) only [l0, l1, l2, l3, l4, l5, l6, l7, l8, l10, l20, l30, l40, l50, l99, l255, lm1, ex_nI, nI_add, nI_leI, nI_ltI, nI_eq, nI_eqNN, nI_NNeq, tN0, exists_eq_left', exists_eq_left, forall_eq, true_and, and_true, Option.some.injEq, reduceCtorEq, false_implies, implies_true, forall_const, not_false_eq_true, not_true_eq_false, t_7 r w, h10]
    refine p_lack r w v hc hk (fun b hb => ?_)
    simp (disch := omega) only [l0, l1, l2, l3, l4, l5, l6, l7, l8, l10, l20, l30, l40, l50, l99, l255, lm1, ex_nI, nI_add, nI_leI, nI_ltI, nI_eq, nI_eqNN, nI_NNeq, tN0, exists_eq_left', exists_eq_left, forall_eq, true_and, and_true, Option.some.injEq, reduceCtorEq, false_implies, implies_true, forall_const, not_false_eq_true, not_true_eq_false, ]
    intro K hK
    refine ⟨fun e => hK _ (hs _ hk ?_), fun e => hK _ (hs _ hk ?_)⟩
    · rw [setI, if_neg (by rw [← hb, e]; decide)]
    · rw [setI, if_pos (by rw [← hb]; simpa using e)]
  · have h10 : 10 ≤ k := by omega
    have : k = 10 := by omega
    subst this
    simp (disch := omega) only [l0, l1, l2, l3, l4, l5, l6, l7, l8, l10, l20, l30, l40, l50, l99, l255, lm1, ex_nI, nI_add, nI_leI, nI_ltI, nI_eq, nI_eqNN, nI_NNeq, tN0, exists_eq_left', exists_eq_left, forall_eq, true_and, and_true, Option.some.injEq, reduceCtorEq, false_implies, implies_true, forall_const, not_false_eq_true, not_true_eq_false, h10]
    exact hp
theorem p_maskN (r : RR dE ad ρ μ h) (w : WA ρ) (v : WV ρ) {c : Nat} (hc : c < ρ 1 2 2) {post : Int32 → Prop} (hp : post (setI (need ρ c) 10)) : wp_X5_neededKinds h (ad 7 0) (ad 2 c) post := by
  unfold wp_X5_neededKinds
  intro J hJ
  refine lpA (J := J) hJ 10 (fun k x => x = setI (need ρ c) k) rfl (fun k x hk e hs => ?_)
  subst e
  by_cases hk : k < 10
  · have h10 : ¬ (10 ≤ k) := by omega
    simp (disch := omega) only [l0, l1, l2, l3, l4, l5, l6, l7, l8, l10, l20, l30, l40, l50, l99, l255, lm1, ex_nI, nI_add, nI_leI, nI_ltI, nI_eq, nI_eqNN, nI_NNeq, tN0, exists_eq_left', exists_eq_left, forall_eq, true_and, and_true, Option.some.injEq, reduceCtorEq, false_implies, implies_true, forall_const, not_false_eq_true, not_true_eq_false, t_7 r w, r_7_0 r w, t_23 r w, n_23 r w, r_23 r w hk, hk, h10, t_2 r w hc, i_2_1 r w hc, t_4 r w hk]
    refine p_need r w hk (fun b hb => ?_)
    simp (disch := omega) only [l0, l1, l2, l3, l4, l5, l6, l7, l8, l10, l20, l30, l40, l50, l99, l255, lm1, ex_nI, nI_add, nI_leI, nI_ltI, nI_eq, nI_eqNN, nI_NNeq, tN0, exists_eq_left', exists_eq_left, forall_eq, true_and, and_true, Option.some.injEq, reduceCtorEq, false_implies, implies_true, forall_const, not_false_eq_true, not_true_eq_false, ]
    intro K hK
    refine ⟨fun e => hK _ (hs _ hk ?_), fun e => hK _ (hs _ hk ?_)⟩
    · rw [setI, if_neg (by rw [← hb, e]; decide)]
    · rw [setI, if_pos (by rw [← hb]; simpa using e)]
  · have h10 : 10 ≤ k := by omega
    have : k = 10 := by omega
    subst this
    simp (disch := omega) only [l0, l1, l2, l3, l4, l5, l6, l7, l8, l10, l20, l30, l40, l50, l99, l255, lm1, ex_nI, nI_add, nI_leI, nI_ltI, nI_eq, nI_eqNN, nI_NNeq, tN0, exists_eq_left', exists_eq_left, forall_eq, true_and, and_true, Option.some.injEq, reduceCtorEq, false_implies, implies_true, forall_const, not_false_eq_true, not_true_eq_false, h10]
    exact hp
theorem p_sv (r : RR dE ad ρ μ h) (w : WA ρ) (v : WV ρ) {c k : Nat} (hc : c < ρ 1 2 2) (hk : k < 10) {post : Int32 → Prop} (hp : post (nI (sv ρ c k))) : wp_X5_softwareVersion h (ad 7 0) (ad 2 c) (nI k) post := by
  unfold wp_X5_softwareVersion
  by_cases z : ρ 24 c k = 0
  · simp (disch := omega) only [l0, l1, l2, l3, l4, l5, l6, l7, l8, l10, l20, l30, l40, l50, l99, l255, lm1, ex_nI, nI_add, nI_leI, nI_ltI, nI_eq, nI_eqNN, nI_NNeq, tN0, exists_eq_left', exists_eq_left, forall_eq, true_and, and_true, Option.some.injEq, reduceCtorEq, false_implies, implies_true, forall_const, not_false_eq_true, not_true_eq_false, t_2 r w hc, r_2_2 r w hc, t_24 r w hc, n_24 r w hc, r_24 r w hc, hk, am0 z]
    intro J hJ K hK
    refine hK (hJ _ ?_)
    rw [sv, if_pos (Or.inl z)] at hp
    exact hp
  · have hl : ρ 24 c k - 1 < ρ 1 1 2 := by have := v.2.2.2.2.2.2.2.2.1 c k; omega
    have h3 := (v.1 k).2
    simp (disch := omega) only [l0, l1, l2, l3, l4, l5, l6, l7, l8, l10, l20, l30, l40, l50, l99, l255, lm1, ex_nI, nI_add, nI_leI, nI_ltI, nI_eq, nI_eqNN, nI_NNeq, tN0, exists_eq_left', exists_eq_left, forall_eq, true_and, and_true, Option.some.injEq, reduceCtorEq, false_implies, implies_true, forall_const, not_false_eq_true, not_true_eq_false, t_7 r w, r_7_0 r w, t_23 r w, n_23 r w, r_23 r w hk, hk, t_2 r w hc, r_2_2 r w hc, t_24 r w hc, n_24 r w hc, r_24 r w hc, hk, am1 z, forall_eq', t_5 r w hl, i_5_2 r w hl, t_4 r w hk, i_4_3 r w hk]
    intro J hJ K hK
    refine ⟨fun e => hK (hJ _ ?_), fun e => hJ _ ?_⟩
    · rw [sv, if_pos (Or.inr e)] at hp
      exact hp
    · rw [sv, if_neg (fun q => q.elim z e)] at hp
      exact hp
theorem p_built (r : RR dE ad ρ μ h) (w : WA ρ) (v : WV ρ) {n c : Nat} (hn : n < ρ 1 3 2) (hc : c < ρ 1 2 2) {post : Int32 → Prop} (hp : ∀ b, b = built ρ n c → post (nI b.toNat)) : wp_X5_isBuiltFor h (ad 7 0) (ad 3 n) (ad 2 c) post := by
  unfold wp_X5_isBuiltFor
  intro J hJ
  refine lp (J := J) hJ 10 (fun k => ∀ i, i < k → ρ 19 n i = sv ρ c i) (fun i hi => absurd hi (Nat.not_lt_zero i)) (fun k hk e hs => ?_)
  by_cases hk : k < 10
  · have h10 : ¬ (10 ≤ k) := by omega
    have b1 := v.2.2.2.1 n k
    have b2 : sv ρ c k < 100 := by
      unfold sv
      split
      · omega
      · exact (v.2.1 _).2.1
    simp (disch := omega) only [l0, l1, l2, l3, l4, l5, l6, l7, l8, l10, l20, l30, l40, l50, l99, l255, lm1, ex_nI, nI_add, nI_leI, nI_ltI, nI_eq, nI_eqNN, nI_NNeq, tN0, exists_eq_left', exists_eq_left, forall_eq, true_and, and_true, Option.some.injEq, reduceCtorEq, false_implies, implies_true, forall_const, not_false_eq_true, not_true_eq_false, t_7 r w, h10, t_3 r w hn, r_3 r w hn, t_19 r w hn, n_19 r w hn, i_19 r w hn, hk]
    refine p_sv r w v hc hk ?_
    simp (disch := omega) only [l0, l1, l2, l3, l4, l5, l6, l7, l8, l10, l20, l30, l40, l50, l99, l255, lm1, ex_nI, nI_add, nI_leI, nI_ltI, nI_eq, nI_eqNN, nI_NNeq, tN0, exists_eq_left', exists_eq_left, forall_eq, true_and, and_true, Option.some.injEq, reduceCtorEq, false_implies, implies_true, forall_const, not_false_eq_true, not_true_eq_false, ]
    refine ⟨fun e2 => hs hk (fun i hi => ?_), fun e2 => hp false (all10_f hk ?_)⟩
    · by_cases hik : i = k
      · rw [hik]; exact e2
      · exact e i (by omega)
    · simp [e2]
  · have h10 : 10 ≤ k := by omega
    simp (disch := omega) only [l0, l1, l2, l3, l4, l5, l6, l7, l8, l10, l20, l30, l40, l50, l99, l255, lm1, ex_nI, nI_add, nI_leI, nI_ltI, nI_eq, nI_eqNN, nI_NNeq, tN0, exists_eq_left', exists_eq_left, forall_eq, true_and, and_true, Option.some.injEq, reduceCtorEq, false_implies, implies_true, forall_const, not_false_eq_true, not_true_eq_false, h10]
    exact hp true (all10_t (fun i hi => by simp [e i (by omega)]))
theorem p_lackSw (r : RR dE ad ρ μ h) (w : WA ρ) (v : WV ρ) {c : Nat} (hc : c < ρ 1 2 2) {post : Int32 → Prop} (hp : ∀ b, b = lackSw ρ c → post (nI b.toNat)) : wp_X5_isLackingSoftware h (ad 7 0) (ad 2 c) post := by
  unfold wp_X5_isLackingSoftware
  intro J hJ
  refine lp (J := J) hJ 10 (fun k => ∀ i, i < k → (!(decide (ρ 4 i 3 ≠ 0) && lack ρ c i)) = true) (fun i hi => absurd hi (Nat.not_lt_zero i)) (fun k hk e hs => ?_)
  by_cases hk : k < 10
  · have h10 : ¬ (10 ≤ k) := by omega
    have b1 := (v.1 k).2
    simp (disch := omega) only [l0, l1, l2, l3, l4, l5, l6, l7, l8, l10, l20, l30, l40, l50, l99, l255, lm1, ex_nI, nI_add, nI_leI, nI_ltI, nI_eq, nI_eqNN, nI_NNeq, tN0, exists_eq_left', exists_eq_left, forall_eq, true_and, and_true, Option.some.injEq, reduceCtorEq, false_implies, implies_true, forall_const, not_false_eq_true, not_true_eq_false, t_7 r w, r_7_0 r w, t_23 r w, n_23 r w, r_23 r w hk, hk, h10, t_4 r w hk, i_4_3 r w hk]
    intro K hK
    have hs2 : (!(decide (ρ 4 k 3 ≠ 0) && lack ρ c k)) = true → K := fun e2 => hK (hs hk (fun i hi => by
      by_cases hik : i = k
      · rw [hik]; exact e2
      · exact e i (by omega)))
    refine ⟨fun e2 => hs2 (by simp [e2]), fun e2 => p_lack r w v hc hk (fun b hb => ?_)⟩
    simp (disch := omega) only [l0, l1, l2, l3, l4, l5, l6, l7, l8, l10, l20, l30, l40, l50, l99, l255, lm1, ex_nI, nI_add, nI_leI, nI_ltI, nI_eq, nI_eqNN, nI_NNeq, tN0, exists_eq_left', exists_eq_left, forall_eq, true_and, and_true, Option.some.injEq, reduceCtorEq, false_implies, implies_true, forall_const, not_false_eq_true, not_true_eq_false, ]
    refine ⟨fun e3 => hs2 (by simp [← hb, e3]), fun e3 => hp true ?_⟩
    have : false = all10 (fun k => !(decide (ρ 4 k 3 ≠ 0) && lack ρ c k)) := all10_f hk (by simp [← hb, e2]; simpa using e3)
    rw [lackSw, ← this]
    rfl
  · have h10 : 10 ≤ k := by omega
    simp (disch := omega) only [l0, l1, l2, l3, l4, l5, l6, l7, l8, l10, l20, l30, l40, l50, l99, l255, lm1, ex_nI, nI_add, nI_leI, nI_ltI, nI_eq, nI_eqNN, nI_NNeq, tN0, exists_eq_left', exists_eq_left, forall_eq, true_and, and_true, Option.some.injEq, reduceCtorEq, false_implies, implies_true, forall_const, not_false_eq_true, not_true_eq_false, h10]
    have : true = all10 (fun k => !(decide (ρ 4 k 3 ≠ 0) && lack ρ c k)) := all10_t (fun i hi => e i (by omega))
    refine hp false ?_
    rw [lackSw, ← this]
    rfl
theorem p_lackAt (r : RR dE ad ρ μ h) (w : WA ρ) (v : WV ρ) {c s : Nat} (hc : c < ρ 1 2 2) (hs8 : s < 100) {post : Int32 → Prop} (hp : ∀ b, b = lackAt ρ c s → post (nI b.toNat)) : wp_X5_isLackingAt h (ad 7 0) (ad 2 c) (nI s) post := by
  unfold wp_X5_isLackingAt
  intro J hJ
  refine lp (J := J) hJ 10 (fun k => ∀ i, i < k → (!(decide (ρ 4 i 0 = s) && lack ρ c i)) = true) (fun i hi => absurd hi (Nat.not_lt_zero i)) (fun k hk e hs => ?_)
  by_cases hk : k < 10
  · have h10 : ¬ (10 ≤ k) := by omega
    have b1 := (v.1 k).1
    simp (disch := omega) only [l0, l1, l2, l3, l4, l5, l6, l7, l8, l10, l20, l30, l40, l50, l99, l255, lm1, ex_nI, nI_add, nI_leI, nI_ltI, nI_eq, nI_eqNN, nI_NNeq, tN0, exists_eq_left', exists_eq_left, forall_eq, true_and, and_true, Option.some.injEq, reduceCtorEq, false_implies, implies_true, forall_const, not_false_eq_true, not_true_eq_false, t_7 r w, r_7_0 r w, t_23 r w, n_23 r w, r_23 r w hk, hk, h10, t_4 r w hk, i_4_0 r w hk]
    intro K hK
    have hs2 : (!(decide (ρ 4 k 0 = s) && lack ρ c k)) = true → K := fun e2 => hK (hs hk (fun i hi => by
      by_cases hik : i = k
      · rw [hik]; exact e2
      · exact e i (by omega)))
    refine ⟨fun e2 => p_lack r w v hc hk (fun b hb => ?_), fun e2 => hs2 (by simp [e2])⟩
    simp (disch := omega) only [l0, l1, l2, l3, l4, l5, l6, l7, l8, l10, l20, l30, l40, l50, l99, l255, lm1, ex_nI, nI_add, nI_leI, nI_ltI, nI_eq, nI_eqNN, nI_NNeq, tN0, exists_eq_left', exists_eq_left, forall_eq, true_and, and_true, Option.some.injEq, reduceCtorEq, false_implies, implies_true, forall_const, not_false_eq_true, not_true_eq_false, ]
    refine ⟨fun e3 => hs2 (by simp [← hb, e3]), fun e3 => hp true ?_⟩
    have : false = all10 (fun k => !(decide (ρ 4 k 0 = s) && lack ρ c k)) := all10_f hk (by simp [← hb, e2]; simpa using e3)
    rw [lackAt, ← this]
    rfl
  · have h10 : 10 ≤ k := by omega
    simp (disch := omega) only [l0, l1, l2, l3, l4, l5, l6, l7, l8, l10, l20, l30, l40, l50, l99, l255, lm1, ex_nI, nI_add, nI_leI, nI_ltI, nI_eq, nI_eqNN, nI_NNeq, tN0, exists_eq_left', exists_eq_left, forall_eq, true_and, and_true, Option.some.injEq, reduceCtorEq, false_implies, implies_true, forall_const, not_false_eq_true, not_true_eq_false, h10]
    have : true = all10 (fun k => !(decide (ρ 4 k 0 = s) && lack ρ c k)) := all10_t (fun i hi => e i (by omega))
    refine hp false ?_
    rw [lackAt, ← this]
    rfl
theorem p_recU (r : RR dE ad ρ μ h) (w : WA ρ) (v : WV ρ) {c : Nat} (hc : c < ρ 1 2 2) {post : Int32 → Prop} (hp : ∀ b, b = recU ρ c → post (nI b.toNat)) : wp_X0_hasRecalledUnit h (ad 2 c) post := by
  unfold wp_X0_hasRecalledUnit
  intro J hJ
  refine lp (J := J) hJ 10 (fun k => ∀ i, i < k → (!(decide (ρ 24 c i ≠ 0) && decide (ρ 5 (ρ 24 c i - 1) 4 ≠ 0))) = true) (fun i hi => absurd hi (Nat.not_lt_zero i)) (fun k hk e hs => ?_)
  by_cases hk : k < 10
  · have h10 : ¬ (10 ≤ k) := by omega
    have hs2 : (!(decide (ρ 24 c k ≠ 0) && decide (ρ 5 (ρ 24 c k - 1) 4 ≠ 0))) = true → J (nI (k + 1)) := fun e2 => (hs hk (fun i hi => by
      by_cases hik : i = k
      · rw [hik]; exact e2
      · exact e i (by omega)))
    by_cases z : ρ 24 c k = 0
    · simp (disch := omega) only [l0, l1, l2, l3, l4, l5, l6, l7, l8, l10, l20, l30, l40, l50, l99, l255, lm1, ex_nI, nI_add, nI_leI, nI_ltI, nI_eq, nI_eqNN, nI_NNeq, tN0, exists_eq_left', exists_eq_left, forall_eq, true_and, and_true, Option.some.injEq, reduceCtorEq, false_implies, implies_true, forall_const, not_false_eq_true, not_true_eq_false, h10, t_2 r w hc, r_2_2 r w hc, t_24 r w hc, n_24 r w hc, r_24 r w hc, hk, am0 z]
      exact fun K hK => hK (hs2 (by simp [z]))
    · have hl : ρ 24 c k - 1 < ρ 1 1 2 := by have := v.2.2.2.2.2.2.2.2.1 c k; omega
      have h4 := (v.2.1 (ρ 24 c k - 1)).2.2.2
      simp (disch := omega) only [l0, l1, l2, l3, l4, l5, l6, l7, l8, l10, l20, l30, l40, l50, l99, l255, lm1, ex_nI, nI_add, nI_leI, nI_ltI, nI_eq, nI_eqNN, nI_NNeq, tN0, exists_eq_left', exists_eq_left, forall_eq, true_and, and_true, Option.some.injEq, reduceCtorEq, false_implies, implies_true, forall_const, not_false_eq_true, not_true_eq_false, h10, t_2 r w hc, r_2_2 r w hc, t_24 r w hc, n_24 r w hc, r_24 r w hc, hk, am1 z, forall_eq', t_5 r w hl, i_5_4 r w hl]
      intro K hK
      refine ⟨fun e3 => hK (hs2 (by simp [e3])), fun e3 => hp true ?_⟩
      have : false = all10 (fun k => !(decide (ρ 24 c k ≠ 0) && decide (ρ 5 (ρ 24 c k - 1) 4 ≠ 0))) := all10_f hk (by simp [z, e3])
      rw [recU, ← this]
      rfl
  · have h10 : 10 ≤ k := by omega
    simp (disch := omega) only [l0, l1, l2, l3, l4, l5, l6, l7, l8, l10, l20, l30, l40, l50, l99, l255, lm1, ex_nI, nI_add, nI_leI, nI_ltI, nI_eq, nI_eqNN, nI_NNeq, tN0, exists_eq_left', exists_eq_left, forall_eq, true_and, and_true, Option.some.injEq, reduceCtorEq, false_implies, implies_true, forall_const, not_false_eq_true, not_true_eq_false, h10]
    have : true = all10 (fun k => !(decide (ρ 24 c k ≠ 0) && decide (ρ 5 (ρ 24 c k - 1) 4 ≠ 0))) := all10_t (fun i hi => e i (by omega))
    refine hp false ?_
    rw [recU, ← this]
    rfl
theorem p_sgnd (r : RR dE ad ρ μ h) (w : WA ρ) {n c : Nat} (hn : n < ρ 1 3 2) {post : Int32 → Prop} (hp : ∀ b, b = sgnd ρ n c → post (nI b.toNat)) : wp_X1_isSignedFor h (ad 3 n) (nI c) post := by
  unfold wp_X1_isSignedFor
  simp (disch := omega) only [l0, l1, l2, l3, l4, l5, l6, l7, l8, l10, l20, l30, l40, l50, l99, l255, lm1, ex_nI, nI_add, nI_leI, nI_ltI, nI_eq, nI_eqNN, nI_NNeq, tN0, exists_eq_left', exists_eq_left, forall_eq, true_and, and_true, Option.some.injEq, reduceCtorEq, false_implies, implies_true, forall_const, not_false_eq_true, not_true_eq_false, t_3 r w hn, i_3_2 r w hn]
  intro J hJ
  refine ⟨fun e => hJ _ ⟨b01_b false, hp false ?_⟩, fun e => hJ _ ⟨b01_b true, hp true ?_⟩⟩
  · simp [sgnd, e]
  · simp [sgnd, e]
theorem p_fits (r : RR dE ad ρ μ h) (w : WA ρ) (v : WV ρ) {c : Nat} (hc : c < ρ 1 2 2) {post : Int32 → Prop} (hp : ∀ b, b = fitsS ρ c → post (nI b.toNat)) : wp_X5_fits h (ad 7 0) (ad 2 c) post := by
  unfold wp_X5_fits
  by_cases z : ρ 2 c 5 = 0
  · simp (disch := omega) only [l0, l1, l2, l3, l4, l5, l6, l7, l8, l10, l20, l30, l40, l50, l99, l255, lm1, ex_nI, nI_add, nI_leI, nI_ltI, nI_eq, nI_eqNN, nI_NNeq, tN0, exists_eq_left', exists_eq_left, forall_eq, true_and, and_true, Option.some.injEq, reduceCtorEq, false_implies, implies_true, forall_const, not_false_eq_true, not_true_eq_false, t_2 r w hc, r_2_5 r w hc, am0 z]
    intro J hJ K hK
    exact hK (hJ _ ⟨b01_b false, hp false (by simp [fitsS, z])⟩)
  · have hn : ρ 2 c 5 - 1 < ρ 1 3 2 := by have := v.2.2.2.2.2.2.2.2.2.1 c; omega
    have h0 := v.2.2.2.2.2.2.1 c hc
    simp (disch := omega) only [l0, l1, l2, l3, l4, l5, l6, l7, l8, l10, l20, l30, l40, l50, l99, l255, lm1, ex_nI, nI_add, nI_leI, nI_ltI, nI_eq, nI_eqNN, nI_NNeq, tN0, exists_eq_left', exists_eq_left, forall_eq, true_and, and_true, Option.some.injEq, reduceCtorEq, false_implies, implies_true, forall_const, not_false_eq_true, not_true_eq_false, t_2 r w hc, r_2_5 r w hc, am1 z, forall_eq', i_2_0 r w hc, h0, t_3 r w hn, t_7 r w]
    intro J hJ K hK
    have hf : false = fitsS ρ c → K := fun e => hK (hJ _ ⟨b01_b false, hp false e⟩)
    refine p_sgnd r w hn (fun b hb => ?_)
    simp (disch := omega) only [l0, l1, l2, l3, l4, l5, l6, l7, l8, l10, l20, l30, l40, l50, l99, l255, lm1, ex_nI, nI_add, nI_leI, nI_ltI, nI_eq, nI_eqNN, nI_NNeq, tN0, exists_eq_left', exists_eq_left, forall_eq, true_and, and_true, Option.some.injEq, reduceCtorEq, false_implies, implies_true, forall_const, not_false_eq_true, not_true_eq_false, ]
    refine ⟨fun e => hf (by simp [fitsS, ← hb, e]), fun e => p_built r w v hn hc (fun b2 hb2 => ?_)⟩
    simp (disch := omega) only [l0, l1, l2, l3, l4, l5, l6, l7, l8, l10, l20, l30, l40, l50, l99, l255, lm1, ex_nI, nI_add, nI_leI, nI_ltI, nI_eq, nI_eqNN, nI_NNeq, tN0, exists_eq_left', exists_eq_left, forall_eq, true_and, and_true, Option.some.injEq, reduceCtorEq, false_implies, implies_true, forall_const, not_false_eq_true, not_true_eq_false, ]
    refine ⟨fun e2 => hf (by simp [fitsS, ← hb2, e2]), fun e2 => p_lackSw r w v hc (fun b3 hb3 => ?_)⟩
    simp (disch := omega) only [l0, l1, l2, l3, l4, l5, l6, l7, l8, l10, l20, l30, l40, l50, l99, l255, lm1, ex_nI, nI_add, nI_leI, nI_ltI, nI_eq, nI_eqNN, nI_NNeq, tN0, exists_eq_left', exists_eq_left, forall_eq, true_and, and_true, Option.some.injEq, reduceCtorEq, false_implies, implies_true, forall_const, not_false_eq_true, not_true_eq_false, ]
    have e' : b = true := by simpa using e
    have e2' : b2 = true := by simpa using e2
    refine ⟨fun e3 => hJ _ ⟨b01_b true, hp true (by simp [fitsS, ← hb, ← hb2, ← hb3, e', e2', e3, z])⟩, fun e3 => hf ?_⟩
    have e3' : b3 = true := by simpa using e3
    simp [fitsS, ← hb3, e3']
theorem p_done (r : RR dE ad ρ μ h) (w : WA ρ) (v : WV ρ) {c s : Nat} (hc : c < ρ 1 2 2) (hs : ρ 2 c 4 = s) (hs8 : s < 8) {post : Int32 → Prop} (hp : ∀ b, b = doneS ρ c s → post (nI b.toNat)) : wp_X5_isDone h (ad 7 0) (ad 2 c) post := by
  unfold wp_X5_isDone
  have h6 := (v.2.2.1 c).2.1
  simp (disch := omega) only [l0, l1, l2, l3, l4, l5, l6, l7, l8, l10, l20, l30, l40, l50, l99, l255, lm1, ex_nI, nI_add, nI_leI, nI_ltI, nI_eq, nI_eqNN, nI_NNeq, tN0, exists_eq_left', exists_eq_left, forall_eq, true_and, and_true, Option.some.injEq, reduceCtorEq, false_implies, implies_true, forall_const, not_false_eq_true, not_true_eq_false, t_2 r w hc, i_2_4 r w hc, i_2_6 r w hc, hs, t_7 r w]
  refine ⟨fun e => ⟨b01_v1 h6, ?_⟩, fun e => ⟨fun e2 => ?_, fun e2 => ?_⟩⟩
  · have q : ρ 2 c 6 = (decide (ρ 2 c 6 ≠ 0)).toNat := by
      have : ρ 2 c 6 = 0 ∨ ρ 2 c 6 = 1 := by omega
      rcases this with z | z <;> rw [z] <;> rfl
    rw [q]
    exact hp _ (by rw [doneS, if_pos e])
  · have q : doneS ρ c s = decide (ρ 2 c 5 ≠ 0) := by rw [doneS, if_neg e, if_pos e2]
    by_cases z : ρ 2 c 5 = 0
    · simp (disch := omega) only [l0, l1, l2, l3, l4, l5, l6, l7, l8, l10, l20, l30, l40, l50, l99, l255, lm1, ex_nI, nI_add, nI_leI, nI_ltI, nI_eq, nI_eqNN, nI_NNeq, tN0, exists_eq_left', exists_eq_left, forall_eq, true_and, and_true, Option.some.injEq, reduceCtorEq, false_implies, implies_true, forall_const, not_false_eq_true, not_true_eq_false, r_2_5 r w hc, am0 z]
      exact fun J hJ => hJ _ ⟨b01_b false, hp false (by simp [q, z])⟩
    · simp (disch := omega) only [l0, l1, l2, l3, l4, l5, l6, l7, l8, l10, l20, l30, l40, l50, l99, l255, lm1, ex_nI, nI_add, nI_leI, nI_ltI, nI_eq, nI_eqNN, nI_NNeq, tN0, exists_eq_left', exists_eq_left, forall_eq, true_and, and_true, Option.some.injEq, reduceCtorEq, false_implies, implies_true, forall_const, not_false_eq_true, not_true_eq_false, r_2_5 r w hc, am1 z, forall_eq']
      exact fun J hJ => hJ _ ⟨b01_b true, hp true (by simp [q, z])⟩
  · refine p_lackAt r w v hc (by omega) (fun b hb => ?_)
    have q : doneS ρ c s = !b := by rw [doneS, if_neg e, if_neg e2, hb]
    simp (disch := omega) only [l0, l1, l2, l3, l4, l5, l6, l7, l8, l10, l20, l30, l40, l50, l99, l255, lm1, ex_nI, nI_add, nI_leI, nI_ltI, nI_eq, nI_eqNN, nI_NNeq, tN0, exists_eq_left', exists_eq_left, forall_eq, true_and, and_true, Option.some.injEq, reduceCtorEq, false_implies, implies_true, forall_const, not_false_eq_true, not_true_eq_false, ]
    intro J hJ
    refine ⟨fun e3 => hJ _ ⟨b01_b true, hp true (by simp [q, e3])⟩, fun e3 => hJ _ ⟨b01_b false, hp false ?_⟩⟩
    have e3' : b = true := by simpa using e3
    simp [q, e3']
end LQ
