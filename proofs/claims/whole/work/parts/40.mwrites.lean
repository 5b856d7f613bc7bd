/-! the Model's writes, arguments, thrown -/
theorem isM_cases {j : Nat} (w : isM j = true) : j = 0 ∨ j = 5 ∨ j = 10 ∨ j = 21 ∨ j = 22 ∨ j = 23 ∨ j = 27 ∨ j = 28 ∨ j = 29 := by
  unfold isM at w
  simp only [Bool.or_eq_true, beq_iff_eq] at w
  omega
/-- what the Model tells -/
def toldM (a b c : Nat) : Prop := a = 4 ∨ (a = 5 ∧ c ≠ 0) ∨ (a = 2 ∧ c ≠ 0 ∧ c ≠ 4) ∨ a = 24 ∨ a = 25 ∨ a = 27 ∨ a = 19 ∨ a = 28 ∨ a = 7 ∨ a = 10 ∨ a = 98 ∨ (a = 1 ∧ b ≤ 3 ∧ c = 2)
theorem cr_22 {ρ : St} {i j v a b k : Nat} : cr (up ρ 22 i j v) a b k = cr ρ a b k := by
  have e : ∀ x, x ≠ 22 → ∀ y z, up ρ 22 i j v x y z = ρ x y z := fun x h y z => up_ne (fun q => h q.1)
  unfold cr elm
  simp only [e 1 (by decide), e 9 (by decide), e 25 (by decide), e 24 (by decide), e 2 (by decide), e 26 (by decide), e 12 (by decide)]
theorem cr_98 {ρ : St} {i j v a b k : Nat} : cr (up ρ 98 i j v) a b k = cr ρ a b k := by
  have e : ∀ x, x ≠ 98 → ∀ y z, up ρ 98 i j v x y z = ρ x y z := fun x h y z => up_ne (fun q => h q.1)
  unfold cr elm
  simp only [e 1 (by decide), e 9 (by decide), e 25 (by decide), e 24 (by decide), e 2 (by decide), e 26 (by decide), e 12 (by decide)]
section MW
variable {dE : Nat} {ad : Nat → Nat → Nat} {ρ μ : St} {h : Hp}
theorem sa_31 (r : RR dE ad ρ μ h) (w : WA ρ) {n v : Nat} : RR dE ad ρ (up μ 4 n 0 v) (sI h (ad 31 0) (n) (nI v)) := by
  refine r.setA (w.2.2.2.1 31 rfl).1 rfl (rfl) (fun t' k' m lt e => ?_) (fun k' m => sm_ne m (by decide))
  rcases ma_cases m with rfl | rfl | rfl | rfl | rfl | rfl | rfl | rfl | rfl | rfl | rfl | rfl | rfl | rfl | rfl | rfl | rfl | rfl | rfl | rfl | rfl
  all_goals (simp only [sl, Prod.mk.injEq] at e; omega)
theorem sa_32 (r : RR dE ad ρ μ h) (w : WA ρ) {n v : Nat} : RR dE ad ρ (up μ 4 n 1 v) (sI h (ad 32 0) (n) (nI v)) := by
  refine r.setA (w.2.2.2.1 32 rfl).1 rfl (rfl) (fun t' k' m lt e => ?_) (fun k' m => sm_ne m (by decide))
  rcases ma_cases m with rfl | rfl | rfl | rfl | rfl | rfl | rfl | rfl | rfl | rfl | rfl | rfl | rfl | rfl | rfl | rfl | rfl | rfl | rfl | rfl | rfl
  all_goals (simp only [sl, Prod.mk.injEq] at e; omega)
theorem sa_33 (r : RR dE ad ρ μ h) (w : WA ρ) {n v : Nat} : RR dE ad ρ (up μ 4 n 2 v) (sI h (ad 33 0) (n) (nI v)) := by
  refine r.setA (w.2.2.2.1 33 rfl).1 rfl (rfl) (fun t' k' m lt e => ?_) (fun k' m => sm_ne m (by decide))
  rcases ma_cases m with rfl | rfl | rfl | rfl | rfl | rfl | rfl | rfl | rfl | rfl | rfl | rfl | rfl | rfl | rfl | rfl | rfl | rfl | rfl | rfl | rfl
  all_goals (simp only [sl, Prod.mk.injEq] at e; omega)
theorem sa_34 (r : RR dE ad ρ μ h) (w : WA ρ) {n v : Nat} : RR dE ad ρ (up μ 4 n 3 v) (sI h (ad 34 0) (n) (nI v)) := by
  refine r.setA (w.2.2.2.1 34 rfl).1 rfl (rfl) (fun t' k' m lt e => ?_) (fun k' m => sm_ne m (by decide))
  rcases ma_cases m with rfl | rfl | rfl | rfl | rfl | rfl | rfl | rfl | rfl | rfl | rfl | rfl | rfl | rfl | rfl | rfl | rfl | rfl | rfl | rfl | rfl
  all_goals (simp only [sl, Prod.mk.injEq] at e; omega)
theorem sa_36 (r : RR dE ad ρ μ h) (w : WA ρ) {n v : Nat} : RR dE ad ρ (up μ 5 n 1 v) (sI h (ad 36 0) (n) (nI v)) := by
  refine r.setA (w.2.2.2.1 36 rfl).1 rfl (rfl) (fun t' k' m lt e => ?_) (fun k' m => sm_ne m (by decide))
  rcases ma_cases m with rfl | rfl | rfl | rfl | rfl | rfl | rfl | rfl | rfl | rfl | rfl | rfl | rfl | rfl | rfl | rfl | rfl | rfl | rfl | rfl | rfl
  all_goals (simp only [sl, Prod.mk.injEq] at e; omega)
theorem sa_37 (r : RR dE ad ρ μ h) (w : WA ρ) {n v : Nat} : RR dE ad ρ (up μ 5 n 2 v) (sI h (ad 37 0) (n) (nI v)) := by
  refine r.setA (w.2.2.2.1 37 rfl).1 rfl (rfl) (fun t' k' m lt e => ?_) (fun k' m => sm_ne m (by decide))
  rcases ma_cases m with rfl | rfl | rfl | rfl | rfl | rfl | rfl | rfl | rfl | rfl | rfl | rfl | rfl | rfl | rfl | rfl | rfl | rfl | rfl | rfl | rfl
  all_goals (simp only [sl, Prod.mk.injEq] at e; omega)
theorem sa_38 (r : RR dE ad ρ μ h) (w : WA ρ) {n v : Nat} : RR dE ad ρ (up μ 5 n 3 v) (sI h (ad 38 0) (n) (nI v)) := by
  refine r.setA (w.2.2.2.1 38 rfl).1 rfl (rfl) (fun t' k' m lt e => ?_) (fun k' m => sm_ne m (by decide))
  rcases ma_cases m with rfl | rfl | rfl | rfl | rfl | rfl | rfl | rfl | rfl | rfl | rfl | rfl | rfl | rfl | rfl | rfl | rfl | rfl | rfl | rfl | rfl
  all_goals (simp only [sl, Prod.mk.injEq] at e; omega)
theorem sa_39 (r : RR dE ad ρ μ h) (w : WA ρ) {n v : Nat} : RR dE ad ρ (up μ 5 n 4 v) (sI h (ad 39 0) (n) (nI v)) := by
  refine r.setA (w.2.2.2.1 39 rfl).1 rfl (rfl) (fun t' k' m lt e => ?_) (fun k' m => sm_ne m (by decide))
  rcases ma_cases m with rfl | rfl | rfl | rfl | rfl | rfl | rfl | rfl | rfl | rfl | rfl | rfl | rfl | rfl | rfl | rfl | rfl | rfl | rfl | rfl | rfl
  all_goals (simp only [sl, Prod.mk.injEq] at e; omega)
theorem sa_41 (r : RR dE ad ρ μ h) (w : WA ρ) {n v : Nat} : RR dE ad ρ (up μ 2 n 1 v) (sI h (ad 41 0) (n) (nI v)) := by
  refine r.setA (w.2.2.2.1 41 rfl).1 rfl (rfl) (fun t' k' m lt e => ?_) (fun k' m => sm_ne m (by decide))
  rcases ma_cases m with rfl | rfl | rfl | rfl | rfl | rfl | rfl | rfl | rfl | rfl | rfl | rfl | rfl | rfl | rfl | rfl | rfl | rfl | rfl | rfl | rfl
  all_goals (simp only [sl, Prod.mk.injEq] at e; omega)
theorem sa_42 (r : RR dE ad ρ μ h) (w : WA ρ) {n v : Nat} : RR dE ad ρ (up μ 2 n 3 v) (sI h (ad 42 0) (n) (nI v)) := by
  refine r.setA (w.2.2.2.1 42 rfl).1 rfl (rfl) (fun t' k' m lt e => ?_) (fun k' m => sm_ne m (by decide))
  rcases ma_cases m with rfl | rfl | rfl | rfl | rfl | rfl | rfl | rfl | rfl | rfl | rfl | rfl | rfl | rfl | rfl | rfl | rfl | rfl | rfl | rfl | rfl
  all_goals (simp only [sl, Prod.mk.injEq] at e; omega)
theorem sa_43 (r : RR dE ad ρ μ h) (w : WA ρ) {n v : Nat} : RR dE ad ρ (up μ 2 n 9 v) (sI h (ad 43 0) (n) (nI v)) := by
  refine r.setA (w.2.2.2.1 43 rfl).1 rfl (rfl) (fun t' k' m lt e => ?_) (fun k' m => sm_ne m (by decide))
  rcases ma_cases m with rfl | rfl | rfl | rfl | rfl | rfl | rfl | rfl | rfl | rfl | rfl | rfl | rfl | rfl | rfl | rfl | rfl | rfl | rfl | rfl | rfl
  all_goals (simp only [sl, Prod.mk.injEq] at e; omega)
theorem sa_45 (r : RR dE ad ρ μ h) (w : WA ρ) {n v : Nat} : RR dE ad ρ (up μ 2 n 5 v) (sI h (ad 45 0) (n) (nI v)) := by
  refine r.setA (w.2.2.2.1 45 rfl).1 rfl (rfl) (fun t' k' m lt e => ?_) (fun k' m => sm_ne m (by decide))
  rcases ma_cases m with rfl | rfl | rfl | rfl | rfl | rfl | rfl | rfl | rfl | rfl | rfl | rfl | rfl | rfl | rfl | rfl | rfl | rfl | rfl | rfl | rfl
  all_goals (simp only [sl, Prod.mk.injEq] at e; omega)
theorem sa_46 (r : RR dE ad ρ μ h) (w : WA ρ) {n v : Nat} : RR dE ad ρ (up μ 2 n 6 v) (sI h (ad 46 0) (n) (nI v)) := by
  refine r.setA (w.2.2.2.1 46 rfl).1 rfl (rfl) (fun t' k' m lt e => ?_) (fun k' m => sm_ne m (by decide))
  rcases ma_cases m with rfl | rfl | rfl | rfl | rfl | rfl | rfl | rfl | rfl | rfl | rfl | rfl | rfl | rfl | rfl | rfl | rfl | rfl | rfl | rfl | rfl
  all_goals (simp only [sl, Prod.mk.injEq] at e; omega)
theorem sa_47 (r : RR dE ad ρ μ h) (w : WA ρ) {n v : Nat} : RR dE ad ρ (up μ 2 n 7 v) (sI h (ad 47 0) (n) (nI v)) := by
  refine r.setA (w.2.2.2.1 47 rfl).1 rfl (rfl) (fun t' k' m lt e => ?_) (fun k' m => sm_ne m (by decide))
  rcases ma_cases m with rfl | rfl | rfl | rfl | rfl | rfl | rfl | rfl | rfl | rfl | rfl | rfl | rfl | rfl | rfl | rfl | rfl | rfl | rfl | rfl | rfl
  all_goals (simp only [sl, Prod.mk.injEq] at e; omega)
theorem sa_48 (r : RR dE ad ρ μ h) (w : WA ρ) {n v : Nat} : RR dE ad ρ (up μ 2 n 8 v) (sI h (ad 48 0) (n) (nI v)) := by
  refine r.setA (w.2.2.2.1 48 rfl).1 rfl (rfl) (fun t' k' m lt e => ?_) (fun k' m => sm_ne m (by decide))
  rcases ma_cases m with rfl | rfl | rfl | rfl | rfl | rfl | rfl | rfl | rfl | rfl | rfl | rfl | rfl | rfl | rfl | rfl | rfl | rfl | rfl | rfl | rfl
  all_goals (simp only [sl, Prod.mk.injEq] at e; omega)
theorem sa_49 (r : RR dE ad ρ μ h) (w : WA ρ) {n v : Nat} : RR dE ad ρ (up μ 25 0 n v) (sI h (ad 49 0) (n) (nI v)) := by
  refine r.setA (w.2.2.2.1 49 rfl).1 rfl (rfl) (fun t' k' m lt e => ?_) (fun k' m => sm_ne m (by decide))
  rcases ma_cases m with rfl | rfl | rfl | rfl | rfl | rfl | rfl | rfl | rfl | rfl | rfl | rfl | rfl | rfl | rfl | rfl | rfl | rfl | rfl | rfl | rfl
  all_goals (simp only [sl, Prod.mk.injEq] at e; omega)
theorem sa_50 (r : RR dE ad ρ μ h) (w : WA ρ) {n v : Nat} : RR dE ad ρ (up μ 27 0 n v) (sI h (ad 50 0) (n) (nI v)) := by
  refine r.setA (w.2.2.2.1 50 rfl).1 rfl (rfl) (fun t' k' m lt e => ?_) (fun k' m => sm_ne m (by decide))
  rcases ma_cases m with rfl | rfl | rfl | rfl | rfl | rfl | rfl | rfl | rfl | rfl | rfl | rfl | rfl | rfl | rfl | rfl | rfl | rfl | rfl | rfl | rfl
  all_goals (simp only [sl, Prod.mk.injEq] at e; omega)
theorem sa_44 (r : RR dE ad ρ μ h) (w : WA ρ) {c k v : Nat} (hk : k < 10) : RR dE ad ρ (up μ 24 c k v) (sI h (ad 44 0) (10 * c + k) (nI v)) := by
  refine r.setA (w.2.2.2.1 44 rfl).1 rfl (by show (24, (10 * c + k) / 10, (10 * c + k) % 10) = (24, c, k); rw [d10 hk, m10 hk]) (fun t' k' m lt e => ?_) (fun k' m => sm_ne m (by decide))
  rcases ma_cases m with rfl | rfl | rfl | rfl | rfl | rfl | rfl | rfl | rfl | rfl | rfl | rfl | rfl | rfl | rfl | rfl | rfl | rfl | rfl | rfl | rfl
  all_goals (simp only [sl, Prod.mk.injEq] at e; omega)
theorem sa_54 (r : RR dE ad ρ μ h) (w : WA ρ) {c k v : Nat} (hk : k < 10) : RR dE ad ρ (up μ 19 c k v) (sI h (ad 54 0) (10 * c + k) (nI v)) := by
  refine r.setA (w.2.2.2.1 54 rfl).1 rfl (by show (19, (10 * c + k) / 10, (10 * c + k) % 10) = (19, c, k); rw [d10 hk, m10 hk]) (fun t' k' m lt e => ?_) (fun k' m => sm_ne m (by decide))
  rcases ma_cases m with rfl | rfl | rfl | rfl | rfl | rfl | rfl | rfl | rfl | rfl | rfl | rfl | rfl | rfl | rfl | rfl | rfl | rfl | rfl | rfl | rfl
  all_goals (simp only [sl, Prod.mk.injEq] at e; omega)
theorem sa_55 (r : RR dE ad ρ μ h) (w : WA ρ) {c k v : Nat} (hk : k < 30) : RR dE ad ρ (up μ 28 c k v) (sI h (ad 55 0) (30 * c + k) (nI v)) := by
  refine r.setA (w.2.2.2.1 55 rfl).1 rfl (by show (28, (30 * c + k) / 30, (30 * c + k) % 30) = (28, c, k); rw [d30 hk, m30 hk]) (fun t' k' m lt e => ?_) (fun k' m => sm_ne m (by decide))
  rcases ma_cases m with rfl | rfl | rfl | rfl | rfl | rfl | rfl | rfl | rfl | rfl | rfl | rfl | rfl | rfl | rfl | rfl | rfl | rfl | rfl | rfl | rfl
  all_goals (simp only [sl, Prod.mk.injEq] at e; omega)
theorem sn_0 (r : RR dE ad ρ μ h) (w : WA ρ) {v : Nat} : RR dE ad ρ (up μ 98 0 0 v) (sI h (ad 8 0) 0 (nI v)) := by
  refine r.setM w.1.2.1 (j := 0) rfl (fun k m e => ?_) (fun t n m => sl_ne m (by decide))
  rcases isM_cases m with rfl | rfl | rfl | rfl | rfl | rfl | rfl | rfl | rfl
  all_goals first | rfl | (exfalso; revert e; decide)
theorem sn_5 (r : RR dE ad ρ μ h) (w : WA ρ) {v : Nat} : RR dE ad ρ (up μ 1 1 2 v) (sI h (ad 8 0) 5 (nI v)) := by
  refine r.setM w.1.2.1 (j := 5) rfl (fun k m e => ?_) (fun t n m => sl_ne m (by decide))
  rcases isM_cases m with rfl | rfl | rfl | rfl | rfl | rfl | rfl | rfl | rfl
  all_goals first | rfl | (exfalso; revert e; decide)
theorem sn_10 (r : RR dE ad ρ μ h) (w : WA ρ) {v : Nat} : RR dE ad ρ (up μ 1 2 2 v) (sI h (ad 8 0) 10 (nI v)) := by
  refine r.setM w.1.2.1 (j := 10) rfl (fun k m e => ?_) (fun t n m => sl_ne m (by decide))
  rcases isM_cases m with rfl | rfl | rfl | rfl | rfl | rfl | rfl | rfl | rfl
  all_goals first | rfl | (exfalso; revert e; decide)
theorem sn_21 (r : RR dE ad ρ μ h) (w : WA ρ) {v : Nat} : RR dE ad ρ (up μ 10 0 1 v) (sI h (ad 8 0) 21 (nI v)) := by
  refine r.setM w.1.2.1 (j := 21) rfl (fun k m e => ?_) (fun t n m => sl_ne m (by decide))
  rcases isM_cases m with rfl | rfl | rfl | rfl | rfl | rfl | rfl | rfl | rfl
  all_goals first | rfl | (exfalso; revert e; decide)
theorem sn_22 (r : RR dE ad ρ μ h) (w : WA ρ) {v : Nat} : RR dE ad ρ (up μ 10 0 0 v) (sI h (ad 8 0) 22 (nI v)) := by
  refine r.setM w.1.2.1 (j := 22) rfl (fun k m e => ?_) (fun t n m => sl_ne m (by decide))
  rcases isM_cases m with rfl | rfl | rfl | rfl | rfl | rfl | rfl | rfl | rfl
  all_goals first | rfl | (exfalso; revert e; decide)
theorem sn_23 (r : RR dE ad ρ μ h) (w : WA ρ) {v : Nat} : RR dE ad ρ (up μ 1 3 2 v) (sI h (ad 8 0) 23 (nI v)) := by
  refine r.setM w.1.2.1 (j := 23) rfl (fun k m e => ?_) (fun t n m => sl_ne m (by decide))
  rcases isM_cases m with rfl | rfl | rfl | rfl | rfl | rfl | rfl | rfl | rfl
  all_goals first | rfl | (exfalso; revert e; decide)
theorem sn_27 (r : RR dE ad ρ μ h) (w : WA ρ) {v : Nat} : RR dE ad ρ (up μ 7 0 7 v) (sI h (ad 8 0) 27 (nI v)) := by
  refine r.setM w.1.2.1 (j := 27) rfl (fun k m e => ?_) (fun t n m => sl_ne m (by decide))
  rcases isM_cases m with rfl | rfl | rfl | rfl | rfl | rfl | rfl | rfl | rfl
  all_goals first | rfl | (exfalso; revert e; decide)
theorem sn_28 (r : RR dE ad ρ μ h) (w : WA ρ) {v : Nat} : RR dE ad ρ (up μ 7 0 8 v) (sI h (ad 8 0) 28 (nI v)) := by
  refine r.setM w.1.2.1 (j := 28) rfl (fun k m e => ?_) (fun t n m => sl_ne m (by decide))
  rcases isM_cases m with rfl | rfl | rfl | rfl | rfl | rfl | rfl | rfl | rfl
  all_goals first | rfl | (exfalso; revert e; decide)
theorem sn_29 (r : RR dE ad ρ μ h) (w : WA ρ) {v : Nat} : RR dE ad ρ (up μ 7 0 9 v) (sI h (ad 8 0) 29 (nI v)) := by
  refine r.setM w.1.2.1 (j := 29) rfl (fun k m e => ?_) (fun t n m => sl_ne m (by decide))
  rcases isM_cases m with rfl | rfl | rfl | rfl | rfl | rfl | rfl | rfl | rfl
  all_goals first | rfl | (exfalso; revert e; decide)
theorem RR.eqM {μ' : St} (r : RR dE ad ρ μ h) (e : ∀ a b c, toldM a b c → μ' a b c = μ a b c) : RR dE ad ρ μ' h := by
  refine r.congM (fun j m => ?_) (fun t n m _ _ => ?_)
  · rcases isM_cases m with rfl | rfl | rfl | rfl | rfl | rfl | rfl | rfl | rfl
    · exact e 98 0 0 (by simp [toldM])
    · exact e 1 1 2 (by simp [toldM])
    · exact e 1 2 2 (by simp [toldM])
    · exact e 10 0 1 (by simp [toldM])
    · exact e 10 0 0 (by simp [toldM])
    · exact e 1 3 2 (by simp [toldM])
    · exact e 7 0 7 (by simp [toldM])
    · exact e 7 0 8 (by simp [toldM])
    · exact e 7 0 9 (by simp [toldM])
  · rcases ma_cases m with rfl | rfl | rfl | rfl | rfl | rfl | rfl | rfl | rfl | rfl | rfl | rfl | rfl | rfl | rfl | rfl | rfl | rfl | rfl | rfl | rfl
    · exact e 4 n 0 (by simp [toldM])
    · exact e 4 n 1 (by simp [toldM])
    · exact e 4 n 2 (by simp [toldM])
    · exact e 4 n 3 (by simp [toldM])
    · exact e 5 n 1 (by simp [toldM])
    · exact e 5 n 2 (by simp [toldM])
    · exact e 5 n 3 (by simp [toldM])
    · exact e 5 n 4 (by simp [toldM])
    · exact e 2 n 1 (by simp [toldM])
    · exact e 2 n 3 (by simp [toldM])
    · exact e 2 n 9 (by simp [toldM])
    · exact e 24 (n / 10) (n % 10) (by simp [toldM])
    · exact e 2 n 5 (by simp [toldM])
    · exact e 2 n 6 (by simp [toldM])
    · exact e 2 n 7 (by simp [toldM])
    · exact e 2 n 8 (by simp [toldM])
    · exact e 25 0 n (by simp [toldM])
    · exact e 27 0 n (by simp [toldM])
    · exact e 19 (n / 10) (n % 10) (by simp [toldM])
    · exact e 28 (n / 30) (n % 30) (by simp [toldM])
    · contradiction
/-- the law's long; the line is silent on what was thrown -/
theorem RR.setJ (r : RR dE ad ρ μ h) {v : Nat} {y : Int64} (hv : Int64.ofNat v = y) : RR dE ad (up ρ 22 0 0 v) μ (sJ h (ad 22 0) 0 y) := by
  refine ⟨fun a b c d v1 v2 => r.1 a b c d ((V_up (by decide) _ _).mp v1) ((V_up (by decide) _ _).mp v2), fun a b v1 => ?_, fun a b k v1 w1 => ?_, fun a b k x v1 w1 => ?_, fun k v1 w1 => r.num ((V_up (by decide) _ _).mp v1) w1, fun a n v1 => r.arr ((V_up (by decide) _ _).mp v1), (V_up (by decide) _ _).mpr r.vE, r.eD, fun _ => ?_⟩
  · rw [lnL_up (by decide)]
    exact r.2.1 a b ((V_up (by decide) _ _).mp v1)
  · rw [up_ne (fun z => by rw [z.1] at w1; cases w1)]
    exact r.int ((V_up (by decide) _ _).mp v1) w1
  · rw [cr_22] at w1
    obtain ⟨h1, h2⟩ := r.2.2.2.1 a b k x ((V_up (by decide) _ _).mp v1) w1
    exact ⟨fun p hp => (V_up (by decide) _ _).mpr (h1 p hp), h2⟩
  · rw [hJ_sJ, if_pos ⟨rfl, rfl⟩, up_eq, hv]
theorem RR.thr (r : RR dE ad ρ μ h) {v : Nat} : RR dE ad (up ρ 98 0 0 v) μ h :=
  r.congL (V_up (by decide)) (fun a b _ => lnL_up (by decide) a b) (fun a b k va wa => by rw [up_ne (fun z => by rw [z.1] at wa; cases wa)]; exact r.int va wa) (fun a b k x va wa => r.2.2.2.1 a b k x va (by rw [cr_98] at wa; exact wa)) (up_ne (fun z => by cases z.1))
theorem i_thr (r : RR dE ad ρ μ h) (w : WA ρ) : hI h (ad 8 0) 0 = nI (μ 98 0 0) := r.num w.1.2.1 rfl
/-! arguments -/
theorem q_in1 {a b n : Nat} (h1 : a ≤ n) (h2 : n ≤ b) (hb : b < 2147483648) {post : Int32 → Prop} (hp : post (nI 1)) : wp_X6_in h (nI n) (nI a) (nI b) post := by
  unfold wp_X6_in
  exact fun J hJ K hK => ⟨fun q => absurd q (nI_nlt h1 (by omega)), fun _ => ⟨fun q => absurd q (nI_nlt h2 (by omega)), fun _ => hJ _ ⟨Or.inr rfl, hp⟩⟩⟩
theorem q_in0 {x : Int32} {a b : Nat} (hx : NR x a b) {post : Int32 → Prop} (hp : post (nI 0)) : wp_X6_in h x (nI a) (nI b) post := by
  unfold wp_X6_in
  exact fun J hJ K hK => ⟨fun _ => hK (hJ _ ⟨Or.inl rfl, hp⟩), fun q => ⟨fun _ => hK (hJ _ ⟨Or.inl rfl, hp⟩), fun q2 => absurd (hx.elim (fun z => absurd z q) id) q2⟩⟩
theorem q_lt1 {n N : Nat} (h1 : n < N) (hN : N < 2147483648) {post : Int32 → Prop} (hp : post (nI 1)) : wp_X6_in h (nI n) (nI 0) (nI N - nI 1) post := by
  rw [nI_subN (by omega)]
  exact q_in1 (Nat.zero_le _) (by omega) (by omega) hp
theorem q_lt0 {x : Int32} {N : Nat} (hx : NL x N) (hN : N < 2147483648) {post : Int32 → Prop} (hp : post (nI 0)) : wp_X6_in h x (nI 0) (nI N - nI 1) post := by
  by_cases z : N = 0
  · subst z
    unfold wp_X6_in
    refine fun J hJ K hK => ⟨fun _ => hK (hJ _ ⟨Or.inl rfl, hp⟩), fun q => ⟨fun _ => hK (hJ _ ⟨Or.inl rfl, hp⟩), fun q2 => absurd ?_ q2⟩⟩
    obtain ⟨n, hn, rfl⟩ := nI_of q
    rw [Int32.lt_iff_toInt_lt, nI_toInt hn]
    have : (nI 0 - nI 1).toInt = -1 := by decide
    omega
  · rw [nI_subN (by omega)]
    refine q_in0 (hx.elim Or.inl (fun q => ?_)) hp
    by_cases q1 : x < 0
    · exact Or.inl q1
    · obtain ⟨n, hn, rfl⟩ := nI_of q1
      have := (nI_leI (by omega) hn).mp q
      exact Or.inr (nI_lt (by omega) hn)
theorem q_kind1 {k : Nat} (hk : k < 10) {post : Int32 → Prop} (hp : post (nI 1)) : wp_X6_isKind h (nI k) post := by
  unfold wp_X6_isKind
  exact q_in1 (a := 0) (b := 9) (Nat.zero_le _) (by omega) (by omega) ⟨Or.inr rfl, hp⟩
theorem q_kind0 {x : Int32} (hx : NL x 10) {post : Int32 → Prop} (hp : post (nI 0)) : wp_X6_isKind h x post := by
  unfold wp_X6_isKind
  refine q_in0 (a := 0) (b := 9) (hx.elim Or.inl (fun q => ?_)) ⟨Or.inl rfl, hp⟩
  by_cases q1 : x < 0
  · exact Or.inl q1
  · obtain ⟨n, hn, rfl⟩ := nI_of q1
    have := (nI_leI (a := 10) (by omega) hn).mp q
    exact Or.inr (nI_lt (by omega) hn)
theorem q_lot1 (r : RR dE ad ρ μ h) (w : WA ρ) (v : WV μ) {l : Nat} (hl : l < μ 1 1 2) {post : Int32 → Prop} (hp : post (nI 1)) : wp_X6_isLot h (ad 8 0) (nI l) post := by
  have b := v.2.2.2.2.1.1
  unfold wp_X6_isLot
  exact ⟨t_8 r w, _, m_5 r w, q_lt1 hl (by omega) ⟨Or.inr rfl, hp⟩⟩
theorem q_lot0 (r : RR dE ad ρ μ h) (w : WA ρ) (v : WV μ) {x : Int32} (hx : NL x (μ 1 1 2)) {post : Int32 → Prop} (hp : post (nI 0)) : wp_X6_isLot h (ad 8 0) x post := by
  have b := v.2.2.2.2.1.1
  unfold wp_X6_isLot
  exact ⟨t_8 r w, _, m_5 r w, q_lt0 hx (by omega) ⟨Or.inl rfl, hp⟩⟩
theorem q_car1 (r : RR dE ad ρ μ h) (w : WA ρ) (v : WV μ) {c : Nat} (hc : c < μ 1 2 2) {post : Int32 → Prop} (hp : post (nI 1)) : wp_X6_isCar h (ad 8 0) (nI c) post := by
  have b := v.2.2.2.2.1.2.1
  unfold wp_X6_isCar
  exact ⟨t_8 r w, _, m_10 r w, q_lt1 hc (by omega) ⟨Or.inr rfl, hp⟩⟩
theorem q_car0 (r : RR dE ad ρ μ h) (w : WA ρ) (v : WV μ) {x : Int32} (hx : NL x (μ 1 2 2)) {post : Int32 → Prop} (hp : post (nI 0)) : wp_X6_isCar h (ad 8 0) x post := by
  have b := v.2.2.2.2.1.2.1
  unfold wp_X6_isCar
  exact ⟨t_8 r w, _, m_10 r w, q_lt0 hx (by omega) ⟨Or.inl rfl, hp⟩⟩
theorem q_img1 (r : RR dE ad ρ μ h) (w : WA ρ) (v : WV μ) {n : Nat} (hn : n < μ 1 3 2) {post : Int32 → Prop} (hp : post (nI 1)) : wp_X6_isImage h (ad 8 0) (nI n) post := by
  have b := v.2.2.2.2.1.2.2.1
  unfold wp_X6_isImage
  exact ⟨t_8 r w, _, m_23 r w, q_lt1 hn (by omega) ⟨Or.inr rfl, hp⟩⟩
theorem q_img0 (r : RR dE ad ρ μ h) (w : WA ρ) (v : WV μ) {x : Int32} (hx : NL x (μ 1 3 2)) {post : Int32 → Prop} (hp : post (nI 0)) : wp_X6_isImage h (ad 8 0) x post := by
  have b := v.2.2.2.2.1.2.2.1
  unfold wp_X6_isImage
  exact ⟨t_8 r w, _, m_23 r w, q_lt0 hx (by omega) ⟨Or.inl rfl, hp⟩⟩
theorem q_well0 (r : RR dE ad ρ μ h) (w : WA ρ) {post : Int32 → Hp → Prop} (hp : ∀ h', RR dE ad ρ (up μ 98 0 0 0) h' → post (nI 1) h') : wp_X6_goesWell h (ad 8 0) (nI 0) post := by
  unfold wp_X6_goesWell
  exact ⟨t_8 r w, fun h2 e2 J hJ => ⟨fun _ => hJ _ ⟨Or.inr rfl, hp h2 (by rw [e2]; exact sn_0 r w)⟩, fun q => absurd rfl q⟩⟩
theorem q_wellN (r : RR dE ad ρ μ h) (w : WA ρ) {k : Nat} (k0 : k ≠ 0) (hk : k < 100) {post : Int32 → Hp → Prop} (hp : ∀ h', RR dE ad ρ (up μ 98 0 0 k) h' → post (nI 0) h') : wp_X6_goesWell h (ad 8 0) (nI k) post := by
  unfold wp_X6_goesWell
  exact ⟨t_8 r w, fun h2 e2 J hJ => ⟨fun q => absurd ((nI_eq (b := 0) (by omega) (by omega)).mp q) k0, fun _ => hJ _ ⟨Or.inl rfl, hp h2 (by rw [e2]; exact sn_0 r w)⟩⟩⟩
theorem q_thrown (r : RR dE ad ρ μ h) (w : WA ρ) {post : Int32 → Prop} (hp : post (nI (μ 98 0 0))) : wp_X6_thrown h (ad 8 0) post := by
  unfold wp_X6_thrown
  exact ⟨t_8 r w, _, i_thr r w, hp⟩
end MW
