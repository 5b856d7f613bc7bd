theorem lm1' : (-nI 1 : Int32) = nI NN := by decide
theorem l9 : (9 : Int32) = nI 9 := rfl
/-! lists -/
def capA (n cap : Nat) : Nat := if n = cap then (if cap = 0 then 10 else cap + cap / 2) else cap
def addS (σ : St) (i : Nat) : St := up (up (up σ 11 26 i 1) 9 i 0 (capA (σ 1 i 2) (σ 9 i 0))) 1 i 2 (σ 1 i 2 + 1)
/-- a list is in order -/
def WLi (σ : St) (i : Nat) : Prop := V σ 1 i ∧ σ 12 1 i ≠ 0 ∧ (V σ 26 i ↔ σ 9 i 0 ≠ 0) ∧ σ 1 i 2 ≤ σ 9 i 0 ∧ σ 9 i 0 < 89000000 ∧ (σ 9 i 0 = 0 ∨ 10 ≤ σ 9 i 0)
section LST
variable {dE : Nat} {ad : Nat → Nat → Nat} {ρ : St} {μ : Mu} {h : Hp}
/-- a list has a new array -/
theorem RR.grow {h' : Hp} {i q m : Nat} {F : Nat → Option Nat} (r : RR dE ad ρ μ h) (w : V ρ 1 i) (z : hT h q = 0) (m0 : m ≠ 0) (cp : V ρ 26 i ↔ ρ 9 i 0 ≠ 0) (sz : ρ 1 i 2 ≤ ρ 9 i 0)
    (ht : ∀ a, hT h' a = if a = q then 26 else hT h a) (hl : ∀ a, hL h' a = if a = q then m else hL h a) (hi : ∀ a j, hI h' a j = if a = q then 0 else hI h a j) (hr : ∀ a j, hR h' a j = if a = ad 1 i ∧ j = 1 then some q else if a = q then F j else hR h a j) (hF : ∀ j, j < ρ 1 i 2 → F j = hR h (ad 26 i) j) (hj : ∀ a j, a ≠ q → hJ h' a j = hJ h a j) :
    RR dE (au ad 26 i q) (up (up ρ 11 26 i 1) 9 i 0 m) μ h' := by
  have q1 : ad 1 i ≠ q := r.fresh z w
  have vv : ∀ {a b}, V (up (up ρ 11 26 i 1) 9 i 0 m) a b → (a = 26 ∧ b = i) ∨ (¬ (a = 26 ∧ b = i) ∧ V ρ a b ∧ au ad 26 i q a b = ad a b ∧ ad a b ≠ q) := by
    intro a b va
    by_cases e : a = 26 ∧ b = i
    · exact Or.inl e
    · refine Or.inr ⟨e, ?_⟩
      have v2 : V ρ a b := by
        unfold V at va
        rw [up_ne (fun z => by cases z.1), up_ne (fun z => e z.2)] at va
        exact va
      exact ⟨v2, au_ne e, r.fresh z v2⟩
  have vu : ∀ {a b}, V ρ a b → V (up (up ρ 11 26 i 1) 9 i 0 m) a b := by
    intro a b va
    unfold V
    rw [up_ne (fun z => by cases z.1)]
    unfold up
    split
    · decide
    · exact va
  have v26 : V (up (up ρ 11 26 i 1) 9 i 0 m) 26 i := by
    unfold V
    rw [up_ne (fun z => by cases z.1), up_eq]
    decide
  have e9 : ∀ a b, ¬ (a = 26 ∧ b = i) → lnL (up (up ρ 11 26 i 1) 9 i 0 m) a b = lnL ρ a b := by
    intro a b e
    have e9 : a = 26 → up (up ρ 11 26 i 1) 9 i 0 m 9 b 0 = ρ 9 b 0 := fun ea => by rw [up_ne (fun z => e ⟨ea, z.2.1⟩), up_ne (fun z => by cases z.1)]
    unfold lnL
    split
    all_goals first | rfl | exact e9 rfl
  have ec : ∀ a b k, ¬ (a = 1 ∧ b = i ∧ k = 1) → cr (up (up ρ 11 26 i 1) 9 i 0 m) a b k = cr ρ a b k := by
    intro a b k e
    have e1 : ∀ k, up (up ρ 11 26 i 1) 9 i 0 m 1 k 2 = ρ 1 k 2 := fun k => by rw [up_ne (fun z => by cases z.1), up_ne (fun z => by cases z.1)]
    have e12 : ∀ a k, up (up ρ 11 26 i 1) 9 i 0 m 12 a k = ρ 12 a k := fun a k => by rw [up_ne (fun z => by cases z.1), up_ne (fun z => by cases z.1)]
    have e25 : ∀ a k, up (up ρ 11 26 i 1) 9 i 0 m 25 a k = ρ 25 a k := fun a k => by rw [up_ne (fun z => by cases z.1), up_ne (fun z => by cases z.1)]
    have e24 : ∀ k q, up (up ρ 11 26 i 1) 9 i 0 m 24 k q = ρ 24 k q := fun k q => by rw [up_ne (fun z => by cases z.1), up_ne (fun z => by cases z.1)]
    have e2 : ∀ k, up (up ρ 11 26 i 1) 9 i 0 m 2 k 5 = ρ 2 k 5 := fun k => by rw [up_ne (fun z => by cases z.1), up_ne (fun z => by cases z.1)]
    have e26 : ∀ q, up (up ρ 11 26 i 1) 9 i 0 m 26 4 q = ρ 26 4 q := fun q => by rw [up_ne (fun z => by cases z.1), up_ne (fun z => by cases z.1)]
    by_cases a1 : a = 1
    · subst a1
      show (if _ then _ else _) = (if _ then _ else _)
      rw [e12]
      by_cases k1 : k = 1
      · have bi : ¬ b = i := fun z => e ⟨rfl, z, k1⟩
        have e9 : up (up ρ 11 26 i 1) 9 i 0 m 9 b 0 = ρ 9 b 0 := by rw [up_ne (fun z => bi z.2.1), up_ne (fun z => by cases z.1)]
        rw [e9]
      · rw [if_pos (Or.inr k1), if_pos (Or.inr k1)]
    · unfold cr elm
      split
      all_goals first | rfl | exact absurd rfl a1 | simp only [e1, e25, e24, e2, e26, e12]
  have ei : ∀ a b k, isI a k = true → up (up ρ 11 26 i 1) 9 i 0 m a b k = ρ a b k := fun a b k w => by rw [up_ne (fun z => by rw [z.1] at w; cases w), up_ne (fun z => by rw [z.1] at w; cases w)]
  have n27 : ¬ (27 = 26 ∧ 0 = i) := fun e => by cases e.1
  have am2 : ∀ x : Option (Nat × Nat), (∀ p, x = some p → V ρ p.1 p.2 ∧ ¬ (p.1 = 26 ∧ p.2 = i)) → am (au ad 26 i q) x = am ad x := fun x hx => am_au (fun p hp => (hx p hp).2)
  -- no told reference but the list's own goes to its array
  have nr : ∀ a b k p, cr ρ a b k = some (some p) → p.1 = 26 → a = 1 ∧ k = 1 ∧ p = (26, b) := by
    intro a b k p e ep
    unfold cr at e
    split at e
    all_goals first
      | (cases e; done)
      | (simp only [orl] at e
         split at e <;> (injection e with e; first | (cases e; done) | (injection e with e; rw [← e] at ep; cases ep)))
      | skip
    · by_cases c1 : ρ 12 7 k = 0
      · rw [if_pos c1] at e; cases e
      · rw [if_neg c1] at e
        by_cases c2 : k = 0
        · rw [if_pos c2] at e; injection e with e; injection e with e; rw [← e] at ep; cases ep
        · rw [if_neg c2] at e
          by_cases c3 : 1 ≤ k ∧ k ≤ 5
          · rw [if_pos c3] at e; injection e with e; injection e with e; rw [← e] at ep; cases ep
          · rw [if_neg c3] at e
            by_cases c4 : k = 6
            · rw [if_pos c4] at e; injection e with e; injection e with e; rw [← e] at ep; cases ep
            · rw [if_neg c4] at e; cases e
    · by_cases c1 : ρ 12 8 k = 0
      · rw [if_pos c1] at e; cases e
      · rw [if_neg c1] at e; injection e with e; injection e with e; rw [← e] at ep
        have ep : 30 + k = 26 := ep
        omega
    · by_cases c1 : ρ 12 23 k = 0
      · rw [if_pos c1] at e; cases e
      · rw [if_neg c1] at e; injection e with e; injection e with e; rw [← e] at ep; cases ep
    · by_cases c1 : ρ 12 1 b = 0 ∨ k ≠ 1
      · rw [if_pos c1] at e; cases e
      · rw [if_neg c1] at e; injection e with e; injection e with e
        have k1 : k = 1 := Classical.byContradiction (fun q => c1 (Or.inr q))
        by_cases c2 : ρ 9 b 0 = 0
        · rw [if_pos c2] at e; rw [← e] at ep; cases ep
        · rw [if_neg c2] at e; exact ⟨rfl, k1, e.symm⟩
    · by_cases c1 : k = 2
      · rw [if_pos c1] at e
        by_cases c2 : ρ 12 2 b = 0
        · rw [if_pos c2] at e; cases e
        · rw [if_neg c2] at e; injection e with e; injection e with e; rw [← e] at ep; cases ep
      · rw [if_neg c1] at e
        by_cases c2 : k = 5
        · rw [if_pos c2] at e
          unfold orl at e
          by_cases c3 : ρ 2 b 5 = 0
          · rw [if_pos c3] at e; injection e with e; cases e
          · rw [if_neg c3] at e; injection e with e; injection e with e; rw [← e] at ep; cases ep
        · rw [if_neg c2] at e; cases e
    · by_cases c1 : ρ 12 3 b = 0 ∨ k ≠ 1
      · rw [if_pos c1] at e; cases e
      · rw [if_neg c1] at e; injection e with e; injection e with e; rw [← e] at ep; cases ep
    · by_cases c1 : k < ρ 1 b 2
      · rw [if_pos c1] at e; injection e with e; injection e with e
        rw [← e] at ep
        unfold elm at ep
        repeat' split at ep
        all_goals cases ep
      · rw [if_neg c1] at e; cases e
  refine ⟨fun a b c d v1 v2 e => ?_, fun a b v1 => ?_, fun a b k v1 w1 => ?_, fun a b k x v1 w1 => ?_, vu r.vE, (au_ne n27).trans r.eD, r.frm.go (fun a ha f t2 i2 v2 => ?_) (fun a ha f => ?_)⟩
  · rcases vv v1 with ⟨rfl, rfl⟩ | ⟨x1, x2, x3, x4⟩
    · rcases vv v2 with ⟨rfl, rfl⟩ | ⟨y1, y2, y3, y4⟩
      · exact ⟨rfl, rfl⟩
      · rw [au_eq, y3] at e
        exact absurd e.symm y4
    · rcases vv v2 with ⟨rfl, rfl⟩ | ⟨y1, y2, y3, y4⟩
      · rw [au_eq, x3] at e
        exact absurd e x4
      · rw [x3, y3] at e
        exact r.inj x2 y2 e
  · rcases vv v1 with ⟨rfl, rfl⟩ | ⟨x1, x2, x3, x4⟩
    · rw [au_eq, ht, hl, if_pos rfl, if_pos rfl]
      refine ⟨rfl, by decide, ?_⟩
      show m = up (up ρ 11 26 b 1) 9 b 0 m 9 b 0
      rw [up_eq]
    · rw [x3, ht, hl, if_neg x4, if_neg x4, e9 a b x1]
      exact r.2.1 a b x2
  · rw [ei a b k w1]
    rcases vv v1 with ⟨rfl, rfl⟩ | ⟨x1, x2, x3, x4⟩
    · cases w1
    · rw [x3, hi, if_neg x4]
      exact r.int x2 w1
  · by_cases e : a = 1 ∧ b = i ∧ k = 1
    · obtain ⟨rfl, rfl, rfl⟩ := e
      have w1 : (if up (up ρ 11 26 b 1) 9 b 0 m 12 1 b = 0 ∨ 1 ≠ 1 then none else some (some (if up (up ρ 11 26 b 1) 9 b 0 m 9 b 0 = 0 then (27, 0) else (26, b)))) = some x := w1
      by_cases f : up (up ρ 11 26 b 1) 9 b 0 m 12 1 b = 0
      · rw [if_pos (Or.inl f)] at w1
        cases w1
      · rw [if_neg (fun z => z.elim f (fun z => z rfl)), up_eq, if_neg m0] at w1
        injection w1 with w1
        subst w1
        refine ⟨fun p hp => by injection hp with hp; subst hp; exact v26, ?_⟩
        rw [au_ne (fun z => by cases z.1), hr, if_pos ⟨rfl, rfl⟩]
        show some q = some (au ad 26 b q 26 b)
        rw [au_eq]
    · rw [ec a b k e] at w1
      rcases vv v1 with ⟨rfl, rfl⟩ | ⟨x1, x2, x3, x4⟩
      · rw [au_eq, hr, if_neg (fun z => q1 z.1.symm), if_pos rfl]
        by_cases hk : k < ρ 1 b 2
        · have vb : V ρ 26 b := cp.mpr (by omega)
          obtain ⟨f1, f2⟩ := r.2.2.2.1 26 b k x vb w1
          refine ⟨fun p hp => vu (f1 p hp), ?_⟩
          rw [hF k hk, f2, am_au]
          rintro p hp ⟨p1, p2⟩
          subst hp
          cases (nr 26 b k p w1 p1).1
        · have w1 : (if k < ρ 1 b 2 then some (some (elm ρ b k)) else none) = some x := w1
          rw [if_neg hk] at w1
          cases w1
      · obtain ⟨f1, f2⟩ := r.2.2.2.1 a b k x x2 w1
        refine ⟨fun p hp => vu (f1 p hp), ?_⟩
        rw [x3, hr, if_neg, if_neg x4, f2, am_au]
        · rintro p hp ⟨p1, p2⟩
          subst hp
          obtain ⟨n1, n2, n3⟩ := nr a b k p w1 p1
          rw [n3] at p2
          exact e ⟨n1, p2, n2⟩
        · rintro ⟨z1, z2⟩
          obtain ⟨y1, y2⟩ := r.inj x2 w z1
          exact e ⟨y1, y2, z2⟩
  · rcases vv v2 with ⟨rfl, rfl⟩ | ⟨x1, x2, x3, x4⟩
    · rw [au_eq]
      exact fun e => ha (by rw [← e]; exact z)
    · rw [x3]
      exact f _ _ x2
  · have q9 : a ≠ q := fun e => ha (by rw [e]; exact z)
    refine ⟨by rw [ht, if_neg q9], by rw [hl, if_neg q9], fun j => by rw [hi, if_neg q9], fun j => ?_, fun j => hj _ _ q9⟩
    rw [hr, if_neg, if_neg q9]
    rintro ⟨z1, z2⟩
    exact f _ _ w z1.symm
/-- a thing is put at the end of a list whose array has a place -/
theorem RR.put {i n : Nat} {p : Nat × Nat} (r : RR dE ad ρ μ h) (w : V ρ 1 i) (w26 : V ρ 26 i) (en : ρ 1 i 2 = n) (ep : elm ρ i n = p) (vp : V ρ p.1 p.2) : RR dE ad (up ρ 1 i 2 (n + 1)) μ (sI (sR h (ad 26 i) n (some (ad p.1 p.2))) (ad 1 i) 2 (nI (n + 1))) := by
  have r1 : RR dE ad ρ μ (sR h (ad 26 i) n (am ad (some p))) := r.setR w26 (fun q hq => by injection hq with hq; subst hq; exact vp) (fun _ _ => Iff.rfl) (fun _ _ => rfl) (fun _ _ _ _ => rfl) (fun a b k y va wa => by
    refine Or.inr ⟨?_, wa⟩
    rintro ⟨rfl, rfl, rfl⟩
    have wa : (if k < ρ 1 b 2 then some (some (elm ρ b k)) else none) = some y := wa
    rw [if_neg (by omega)] at wa
    cases wa) rfl
  refine r1.setS w (fun j hj _ => ?_)
  rw [hR_sR]
  by_cases e : j = n
  · subst e
    rw [if_pos ⟨rfl, rfl⟩, ep]
    exact ⟨vp, rfl⟩
  · rw [if_neg (fun z => e z.2)]
    have ce : cr ρ 26 i j = some (some (elm ρ i j)) := by show (if _ then _ else _) = _; rw [if_pos (by omega)]
    exact ⟨r.rV w26 ce, r.ref w26 ce⟩
theorem cr_11 {t i v a b k : Nat} : cr (up ρ 11 t i v) a b k = cr ρ a b k := by
  have e1 : ∀ k, up ρ 11 t i v 1 k 2 = ρ 1 k 2 := fun k => up_ne (fun z => by cases z.1)
  have e9 : ∀ k, up ρ 11 t i v 9 k 0 = ρ 9 k 0 := fun k => up_ne (fun z => by cases z.1)
  have e12 : ∀ a k, up ρ 11 t i v 12 a k = ρ 12 a k := fun a k => up_ne (fun z => by cases z.1)
  have e25 : ∀ a k, up ρ 11 t i v 25 a k = ρ 25 a k := fun a k => up_ne (fun z => by cases z.1)
  have e24 : ∀ k q, up ρ 11 t i v 24 k q = ρ 24 k q := fun k q => up_ne (fun z => by cases z.1)
  have e2 : ∀ k, up ρ 11 t i v 2 k 5 = ρ 2 k 5 := fun k => up_ne (fun z => by cases z.1)
  have e26 : ∀ q, up ρ 11 t i v 26 4 q = ρ 26 4 q := fun q => up_ne (fun z => by cases z.1)
  unfold cr elm
  simp only [e1, e9, e25, e24, e2, e26, e12]
theorem up_same {σ : St} {t i j : Nat} : up σ t i j (σ t i j) = σ := by
  funext a b c
  unfold up
  split
  · rename_i e
    obtain ⟨rfl, rfl, rfl⟩ := e
    rfl
  · rfl
/-- what there is already -/
theorem RR.again {t i : Nat} (r : RR dE ad ρ μ h) (w : V ρ t i) : RR dE ad (up ρ 11 t i 1) μ h := by
  have hV : ∀ a b, V (up ρ 11 t i 1) a b ↔ V ρ a b := by
    intro a b
    by_cases e : a = t ∧ b = i
    · obtain ⟨rfl, rfl⟩ := e
      exact ⟨fun _ => w, fun _ => by unfold V; rw [up_eq]; decide⟩
    · unfold V
      rw [up_ne (fun z => e z.2)]
  exact r.congL hV (fun a b _ => lnL_up (by decide) a b) (fun a b k va wa => by rw [up_ne (fun z => by rw [z.1] at wa; cases wa)]; exact r.int va wa) (fun a b k x va wa => r.2.2.2.1 a b k x va (by rw [cr_11] at wa; exact wa)) (up_ne (fun z => by cases z.1))
theorem elm_tag {i j : Nat} : tgL (elm ρ i j).1 = 2 ∨ tgL (elm ρ i j).1 = 3 ∨ tgL (elm ρ i j).1 = 5 ∨ tgL (elm ρ i j).1 = 6 := by
  unfold elm
  repeat' split
  all_goals first | exact Or.inl rfl | exact Or.inr (Or.inl rfl) | exact Or.inr (Or.inr (Or.inl rfl)) | exact Or.inr (Or.inr (Or.inr rfl))
theorem shr1 {n : Nat} (hn : n < 2 ^ 31) : nI n >>> (nI 1 &&& 31) = nI (n / 2) := pk_shrN hn _ 1 (by decide)
theorem p_fin {i n a L x : Nat} {p : Nat × Nat} (g : RR dE ad ρ μ h) (ea : ad 26 i = a) (eL : ad 1 i = L) (ex : ad p.1 p.2 = x) (w : V ρ 1 i) (w26 : V ρ 26 i) (en : ρ 1 i 2 = n) (ep : elm ρ i n = p) (vp : V ρ p.1 p.2) (hc : n < ρ 9 i 0) (hb : ρ 9 i 0 < 2000000000) {post : Hp → Prop} (hp : ∀ h', RR dE ad (up ρ 1 i 2 (n + 1)) μ h' → post h') :
    (hT h a = 26 ∧ (∃ j3 : Nat, nI n = nI j3 ∧ j3 < 2147483648 ∧ j3 < hL h a ∧ ((hT h x = 2 ∨ hT h x = 3 ∨ hT h x = 5 ∨ hT h x = 6) ∧ (∀ h5, h5 = sR h a j3 (some x) → (hT h5 L = 1 ∧ (∀ h7, h7 = sI h5 L 2 (nI n + (1 : Int32)) → post h7)))))) := by
  subst ea eL ex
  have tp := elm_tag (ρ := ρ) (i := i) (j := n)
  rw [ep] at tp
  refine ⟨g.tag w26, n, rfl, by omega, ?_, ?_, fun h5 e5 => ⟨?_, fun h7 e7 => hp h7 ?_⟩⟩
  · rw [g.len w26]
    exact hc
  · rw [g.tag vp]
    exact tp
  · rw [e5, hT_sR]
    exact g.tag w
  · rw [e7, e5, nI_1]
    exact g.put w w26 en ep vp
theorem p_add (r : RR dE ad ρ μ h) {i : Nat} (wl : WLi ρ i) {p : Nat × Nat} (ep : elm ρ i (ρ 1 i 2) = p) (vp : V ρ p.1 p.2) {mc ms : Nat} (bc : ρ 1 i 2 = ρ 9 i 0 → 1 ≤ mc ∧ capA (ρ 1 i 2) (ρ 9 i 0) ≤ ms) {post : Int32 → Hp → Prop} (hp : ∀ ad' h', (∀ t j, t ≠ 26 → ad' t j = ad t j) → RR dE ad' (addS ρ i) μ h' → post (nI 1) h') : wp_Jx4a65c_add_9ea2d dE mc ms h (ad 1 i) (ad p.1 p.2) post := by
  obtain ⟨w1, w12, w26, sz, bg, c10⟩ := wl
  have tp := elm_tag (ρ := ρ) (i := i) (j := ρ 1 i 2)
  rw [ep] at tp
  unfold wp_Jx4a65c_add_9ea2d
  refine ⟨r.tag w1, _, rfl, ?_⟩
  intro h3 eh3
  have r3 : RR dE ad ρ μ h3 := by rw [eh3]; exact r.rawI w1 rfl (by decide) rfl
  clear eh3
  have t1 : hT h3 (ad 1 i) = 1 := r3.tag w1
  have i2 : hI h3 (ad 1 i) 2 = nI (ρ 1 i 2) := r3.int w1 rfl
  have tx : hT h3 (ad p.1 p.2) = tgL p.1 := r3.tag vp
  unfold wp_Jx4a65c_add_72be8
  by_cases c0 : ρ 9 i 0 = 0
  · have n0 : ρ 1 i 2 = 0 := by omega
    have r1 : hR h3 (ad 1 i) 1 = some dE := by
      rw [← r.eD]
      exact r3.ref (x := some (27, 0)) w1 (by show (if _ then _ else _) = _; rw [if_neg (fun z => z.elim w12 (fun z => z rfl)), if_pos c0])
    obtain ⟨b1, b2⟩ := bc (by omega)
    have cA : capA (ρ 1 i 2) (ρ 9 i 0) = 10 := by rw [n0, c0]; rfl
    rw [cA] at b2
    refine ⟨_, r1, _, i2, 1, 10, by omega, by omega, Or.inr (t_27 r3), _, rfl, fun J hJ => ⟨fun _ => ?_, fun q => absurd (by rw [n_27 r3, n0]) q⟩⟩
    refine ⟨1, 10, by omega, by omega, t1, ?_⟩
    unfold wp_Jx4a65c_grow_d5877
    refine ⟨t1, _, i2, 1, 10, by omega, by omega, ?_⟩
    unfold wp_Jx4a65c_grow_92f84
    refine ⟨t1, _, r1, Or.inr (t_27 r3), 0, n_27 r3, fun K hK => ⟨fun q => absurd q (by decide), fun _ => ⟨_, r1, ⟨fun _ x hx => ?_, fun q => absurd rfl q⟩⟩⟩⟩
    have hx10 : x = nI 10 := by rw [hx, n0]; rfl
    refine ⟨10, hx10, by decide, by omega, by omega, fun q z h4 e4 h5 e5 => ?_⟩
    have g : RR dE (au ad 26 i q) (up (up ρ 11 26 i 1) 9 i 0 10) μ h5 := by
      refine r3.grow (F := fun _ => none) w1 z (by decide) w26 sz (fun a => ?_) (fun a => ?_) (fun a j => ?_) (fun a j => ?_) (fun j hj => absurd hj (by omega)) (fun a j na => by rw [e5, hJ_sR, e4, hJ_sN, if_neg na])
      · rw [e5, hT_sR, e4, hT_sN]
      · rw [e5, hL_sR, e4, hL_sN]
      · rw [e5, hI_sR, e4, hI_sN]
      · rw [e5, hR_sR, e4, hR_sN]
    refine hJ _ _ _ _ ?_
    have v26 : V (up (up ρ 11 26 i 1) 9 i 0 10) 26 i := by
      unfold V
      rw [up_ne (fun z => by cases z.1), up_eq]
      decide
    have v1 : V (up (up ρ 11 26 i 1) 9 i 0 10) 1 i := by
      unfold V
      rw [up_ne (fun z => by cases z.1), up_ne (fun z => by cases z.2.1)]
      exact w1
    have ea : au ad 26 i q 26 i = q := au_eq
    have t26 : hT h5 q = 26 := by rw [← ea]; exact g.tag v26
    have ln : hL h5 q = 10 := by
      rw [← ea, g.len v26]
      show up (up ρ 11 26 i 1) 9 i 0 10 9 i 0 = 10
      rw [up_eq]
    have px : au ad 26 i q p.1 p.2 = ad p.1 p.2 := au_ne (fun z => by rw [z.1] at tp; revert tp; decide)
    refine p_fin (ρ := up (up ρ 11 26 i 1) 9 i 0 10) (i := i) (p := p) g ea (au_ne (fun z => by cases z.1)) px v1 v26 ?_ ?_ ?_ ?_ ?_ ?_
    · rw [up_ne (fun z => by cases z.1), up_ne (fun z => by cases z.1)]
    · rw [← ep]
      unfold elm
      rw [up_ne (fun z => by cases z.1), up_ne (fun z => by cases z.1)]
    · unfold V
      rw [up_ne (fun z => by cases z.1)]
      unfold up
      split
      · decide
      · exact vp
    · rw [up_eq]; omega
    · rw [up_eq]; omega
    · intro h' g'
      refine hp (au ad 26 i q) h' (fun t j ht => au_ne (fun z => ht z.1)) ?_
      unfold addS
      rw [cA]
      exact g'
  · have r1 : hR h3 (ad 1 i) 1 = some (ad 26 i) := r3.ref (x := some (26, i)) w1 (by show (if _ then _ else _) = _; rw [if_neg (fun z => z.elim w12 (fun z => z rfl)), if_neg c0])
    have v26 : V ρ 26 i := w26.mpr c0
    have t26 : hT h3 (ad 26 i) = 26 := r3.tag v26
    have ln : hL h3 (ad 26 i) = ρ 9 i 0 := r3.len v26
    by_cases cn : ρ 1 i 2 = ρ 9 i 0
    · obtain ⟨b1, b2⟩ := bc cn
      have cA : capA (ρ 1 i 2) (ρ 9 i 0) = ρ 9 i 0 + ρ 9 i 0 / 2 := by unfold capA; rw [if_pos cn, if_neg c0]
      rw [cA] at b2
      refine ⟨_, r1, _, i2, 1, ρ 9 i 0 + ρ 9 i 0 / 2, by omega, by omega, Or.inl t26, _, ln, fun J hJ => ⟨fun _ => ?_, fun q => absurd (by rw [cn]) q⟩⟩
      refine ⟨1, ρ 9 i 0 + ρ 9 i 0 / 2, by omega, by omega, t1, ?_⟩
      unfold wp_Jx4a65c_grow_d5877
      refine ⟨t1, _, i2, 1, ρ 9 i 0 + ρ 9 i 0 / 2, by omega, by omega, ?_⟩
      unfold wp_Jx4a65c_grow_92f84
      refine ⟨t1, _, r1, Or.inl t26, _, ln, fun K hK => ?_⟩
      have hK2 : K := by
        refine hK ?_
        unfold wp_J8_newLength_cabcc
        intro x ex J2 hJ2
        have sh : nI (ρ 9 i 0) >>> ((1 : Int32) &&& 31) = nI (ρ 9 i 0 / 2) := shr1 (by omega)
        have ex2 : x = nI (ρ 9 i 0 / 2) := by
          have e1 : nI (ρ 1 i 2) + 1 - nI (ρ 9 i 0) = nI 1 := by rw [cn, nI_1, nI_subN (by omega)]; congr 1; omega
          rw [ex, e1, sh, if_pos (nI_lt (by omega) (by omega))]
        have e3 : nI (ρ 9 i 0) + x = nI (ρ 9 i 0 + ρ 9 i 0 / 2) := by rw [ex2, nI_add]
        rw [e3]
        refine ⟨fun q => absurd q (nI_nle (by omega) (by omega)), fun _ => ⟨fun q => absurd q ?_, fun _ => ?_⟩⟩
        · have : (2147483639 : Int32) = nI 2147483639 := rfl
          rw [this]
          exact nI_nlt (by omega) (by omega)
        · refine ⟨_, r1, 1, ρ 9 i 0 + ρ 9 i 0 / 2, by omega, by omega, ?_⟩
          unfold wp_J7_copyOf_1904c
          refine ⟨t26, 1, ρ 9 i 0 + ρ 9 i 0 / 2, by omega, by omega, ?_⟩
          unfold wp_J7_copyOf_6403c
          refine ⟨ρ 9 i 0 + ρ 9 i 0 / 2, rfl, by omega, by omega, by omega, fun q z h4 e4 => ?_⟩
          have nq : ad 26 i ≠ q := r3.fresh z v26
          have t4 : hT h4 (ad 26 i) = 26 := by rw [e4, hT_sN, if_neg nq]; exact t26
          have l4 : hL h4 (ad 26 i) = ρ 9 i 0 := by rw [e4, hL_sN, if_neg nq]; exact ln
          refine ⟨Or.inl t4, _, l4, fun x6 e6 => ⟨t4, 0, rfl, by decide, 0, rfl, by decide, ρ 9 i 0, ?_, by omega, by omega, ?_, fun k hk y hy => ?_, fun h5 e5 => ⟨?_, fun h6 e6 => ?_⟩⟩⟩
          · rw [e6, if_neg (nI_nlt (by omega) (by omega))]
          · rw [e4, hL_sN, if_pos rfl]; omega
          · rw [Nat.zero_add] at hy
            rw [e4, hR_sN, if_neg nq] at hy
            have ce : cr ρ 26 i k = some (some (elm ρ i k)) := by show (if _ then _ else _) = _; rw [if_pos (by omega)]
            have := r3.ref v26 ce
            rw [hy] at this
            injection this with this
            have tt : hT h3 y = tgL (elm ρ i k).1 := by rw [this]; exact r3.tag (r3.rV v26 ce)
            have yq : y ≠ q := by rw [this]; exact r3.fresh z (r3.rV v26 ce)
            rw [e4, hT_sN, if_neg yq, tt]
            exact elm_tag
          · rw [e5, hT_sA, e4, hT_sN, if_neg (r3.fresh z w1)]
            exact t1
          · have g : RR dE (au ad 26 i q) (up (up ρ 11 26 i 1) 9 i 0 (ρ 9 i 0 + ρ 9 i 0 / 2)) μ h6 := by
              refine r3.grow (F := va_cpy (hR h4 (ad 26 i)) (hR h4 q) 0 0 (ρ 9 i 0)) w1 z (by omega) w26 sz (fun a => ?_) (fun a => ?_) (fun a j => ?_) (fun a j => ?_) (fun j hj => ?_) (fun a j na => by rw [e6, hJ_sR, e5, hJ_sA, e4, hJ_sN, if_neg na])
              · rw [e6, hT_sR, e5, hT_sA, e4, hT_sN]
              · rw [e6, hL_sR, e5, hL_sA, e4, hL_sN]
              · rw [e6, hI_sR, e5, hI_sA, e4, hI_sN]
              · rw [e6, hR_sR, e5, hR_sA]
                by_cases c1 : a = ad 1 i ∧ j = 1
                · rw [if_pos c1, if_pos c1]
                · rw [if_neg c1, if_neg c1]
                  by_cases c2 : a = q
                  · rw [if_pos c2, if_pos c2]
                  · rw [if_neg c2, if_neg c2, e4, hR_sN, if_neg c2]
              · rw [pk_cpy_in (by omega) (by omega), e4, hR_sN, if_neg nq]
                congr 1
                omega
            refine hJ _ _ _ _ ?_
            have v26' : V (up (up ρ 11 26 i 1) 9 i 0 (ρ 9 i 0 + ρ 9 i 0 / 2)) 26 i := by
              unfold V
              rw [up_ne (fun z => by cases z.1), up_eq]
              decide
            have v1 : V (up (up ρ 11 26 i 1) 9 i 0 (ρ 9 i 0 + ρ 9 i 0 / 2)) 1 i := by
              unfold V
              rw [up_ne (fun z => by cases z.1), up_ne (fun z => by cases z.2.1)]
              exact w1
            have px : au ad 26 i q p.1 p.2 = ad p.1 p.2 := au_ne (fun z => by rw [z.1] at tp; revert tp; decide)
            refine p_fin (ρ := up (up ρ 11 26 i 1) 9 i 0 (ρ 9 i 0 + ρ 9 i 0 / 2)) (i := i) (p := p) g au_eq (au_ne (fun z => by cases z.1)) px v1 v26' ?_ ?_ ?_ ?_ ?_ ?_
            · rw [up_ne (fun z => by cases z.1), up_ne (fun z => by cases z.1)]
            · rw [← ep]
              unfold elm
              rw [up_ne (fun z => by cases z.1), up_ne (fun z => by cases z.1)]
            · unfold V
              rw [up_ne (fun z => by cases z.1)]
              unfold up
              split
              · decide
              · exact vp
            · rw [up_eq]; omega
            · rw [up_eq]; omega
            · intro h' g'
              refine hp (au ad 26 i q) h' (fun t j ht => au_ne (fun z => ht z.1)) ?_
              unfold addS
              rw [cA]
              exact g'
      exact ⟨fun _ => hK2, fun q => absurd (by rw [← nI_0]; exact nI_lt (by omega) (by omega)) q⟩
    · have cA : capA (ρ 1 i 2) (ρ 9 i 0) = ρ 9 i 0 := by unfold capA; rw [if_neg cn]
      refine ⟨_, r1, _, i2, 0, 0, by omega, by omega, Or.inl t26, _, ln, fun J hJ => ⟨fun q => absurd ((nI_eq (by omega) (by omega)).mp q) cn, fun _ => hJ _ _ _ _ ?_⟩⟩
      have g := r3.again v26
      have v26' : V (up ρ 11 26 i 1) 26 i := by unfold V; rw [up_eq]; decide
      have v1 : V (up ρ 11 26 i 1) 1 i := by unfold V; rw [up_ne (fun z => by cases z.2.1)]; exact w1
      refine p_fin (ρ := up ρ 11 26 i 1) (i := i) (p := p) g rfl rfl rfl v1 v26' ?_ ?_ ?_ ?_ ?_ ?_
      · rw [up_ne (fun z => by cases z.1)]
      · rw [← ep]
        unfold elm
        rw [up_ne (fun z => by cases z.1)]
      · unfold V
        unfold up
        split
        · decide
        · exact vp
      · rw [up_ne (fun z => by cases z.1)]; omega
      · rw [up_ne (fun z => by cases z.1)]; omega
      · intro h' g'
        refine hp ad h' (fun t j ht => rfl) ?_
        unfold addS
        have e9 : up ρ 11 26 i 1 9 i 0 = ρ 9 i 0 := up_ne (fun z => by cases z.1)
        rw [cA, ← e9, up_same]
        exact g'
end LST
