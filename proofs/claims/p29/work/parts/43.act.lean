/-! a step of the law: which call it makes -/
def lowF (x n : Int32) : Int32 := (x &&& 2147483647) - (x &&& 2147483647) / n * n
theorem low_eq {h : Hp} {x n : Int32} {post : Int32 → Prop} (hn : ¬ n = 0) : wp_L_low h x n post = post (lowF x n) := propext ⟨fun z => z.2, fun z => ⟨hn, z⟩⟩
theorem and_nat (x : Int32) : ∃ m, m < 2147483648 ∧ x &&& 2147483647 = nI m := by
  refine ⟨(x &&& 2147483647).toBitVec.toNat, ?_, (xN _).symm⟩
  have h : (x &&& 2147483647).toBitVec = x.toBitVec &&& 2147483647#32 := by rw [Int32.toBitVec_and]; rfl
  rw [h, BitVec.toNat_and]
  have : x.toBitVec.toNat &&& (2147483647#32).toNat ≤ (2147483647#32).toNat := Nat.and_le_right
  have e : (2147483647#32).toNat = 2147483647 := rfl
  omega
theorem lowF_n (x : Int32) {n : Nat} (h0 : 0 < n) (hn : n < 2 ^ 31) : ∃ m, m < n ∧ lowF x (nI n) = nI m := by
  obtain ⟨m, hm, e⟩ := and_nat x
  refine ⟨m % n, Nat.mod_lt _ h0, ?_⟩
  unfold lowF
  rw [e]
  exact pk_rem (by omega) h0 hn
def oF (v : Int32) : Int32 := if lowF (v >>> ((24 : Int32) &&& 31)) 9 = 0 then 1 else 0
def bF (o a b : Int32) : Int32 := if o = 0 then a else b
def kF (v : Int32) : Int32 := bF (oF v) (lowF (v >>> ((4 : Int32) &&& 31)) 4) (lowF (v >>> ((4 : Int32) &&& 31)) 12 - 1)
def gF (v : Int32) : Int32 := bF (oF v) (lowF (v >>> ((4 : Int32) &&& 31)) 6) (lowF (v >>> ((4 : Int32) &&& 31)) 33 - 1)
def tF (v : Int32) : Int32 := bF (oF v) (lowF (v >>> ((9 : Int32) &&& 31)) 6) (lowF (v >>> ((9 : Int32) &&& 31)) 43 - 1)
def pF (v : Int32) : Int32 := 5 + lowF (v >>> ((4 : Int32) &&& 31)) 3
def hF (v at0 : Int32) : Int32 := if oF v = 0 then (if at0 < 0 then gF v else at0) else gF v
def actC (v at0 : Int32) : Nat × Int32 × Int32 × Int32 × Int32 × Int32 :=
  if lowF v 22 = 0 ∨ lowF v 22 = 1 then (0, kF v, bF (oF v) (lowF (v >>> ((8 : Int32) &&& 31)) 5) (lowF (v >>> ((8 : Int32) &&& 31)) 8 - 1), bF (oF v) ((1 : Int32) <<< ((lowF (v >>> ((11 : Int32) &&& 31)) 3) &&& 31)) (lowF (v >>> ((11 : Int32) &&& 31)) 300), bF (oF v) (if lowF (v >>> ((14 : Int32) &&& 31)) 3 = 0 then 8 else 0) (lowF (v >>> ((14 : Int32) &&& 31)) 300 - 9), (if ((v >>> ((17 : Int32) &&& 31)) &&& (1 : Int32)) = (1 : Int32) then 1 else 0))
  else if lowF v 22 = 2 ∨ lowF v 22 = 3 ∨ lowF v 22 = 4 then (1, kF v, bF (oF v) (1 + lowF (v >>> ((8 : Int32) &&& 31)) 9) (lowF (v >>> ((8 : Int32) &&& 31)) 103 - 1), bF (oF v) (1 + lowF (v >>> ((12 : Int32) &&& 31)) 4) (lowF (v >>> ((12 : Int32) &&& 31)) 54 - 1), 0, 0)
  else if lowF v 22 = 5 then (2, tF v, 0, 0, 0, 0)
  else if lowF v 22 = 6 ∨ lowF v 22 = 7 ∨ lowF v 22 = 8 then (3, bF (oF v) (lowF (v >>> ((4 : Int32) &&& 31)) 16) (lowF (v >>> ((4 : Int32) &&& 31)) 259 - 1), 0, 0, 0, 0)
  else if lowF v 22 = 9 then (4, gF v, 0, 0, 0, 0)
  else if lowF v 22 = 10 ∨ lowF v 22 = 11 ∨ lowF v 22 = 12 then (5, hF v at0, 0, 0, 0, 0)
  else if lowF v 22 = 13 ∨ lowF v 22 = 14 then (6, tF v, hF v at0, 0, 0, 0)
  else if lowF v 22 = 15 ∨ lowF v 22 = 16 then (7, hF v at0, tF v, 0, 0, 0)
  else (8, bF (oF v) (1 + lowF (v >>> ((4 : Int32) &&& 31)) 2) (lowF (v >>> ((4 : Int32) &&& 31)) 23 - 1), 0, 0, 0, 0)
theorem ac_0 {v at0 : Int32} (z : lowF v 22 = 0) : actC v at0 = (0, kF v, bF (oF v) (lowF (v >>> ((8 : Int32) &&& 31)) 5) (lowF (v >>> ((8 : Int32) &&& 31)) 8 - 1), bF (oF v) ((1 : Int32) <<< ((lowF (v >>> ((11 : Int32) &&& 31)) 3) &&& 31)) (lowF (v >>> ((11 : Int32) &&& 31)) 300), bF (oF v) (if lowF (v >>> ((14 : Int32) &&& 31)) 3 = 0 then 8 else 0) (lowF (v >>> ((14 : Int32) &&& 31)) 300 - 9), (if ((v >>> ((17 : Int32) &&& 31)) &&& (1 : Int32)) = (1 : Int32) then 1 else 0)) := by
  unfold actC
  rw [if_pos (Or.inl z)]
theorem ac_1 {v at0 : Int32} (z : lowF v 22 = 1) : actC v at0 = (0, kF v, bF (oF v) (lowF (v >>> ((8 : Int32) &&& 31)) 5) (lowF (v >>> ((8 : Int32) &&& 31)) 8 - 1), bF (oF v) ((1 : Int32) <<< ((lowF (v >>> ((11 : Int32) &&& 31)) 3) &&& 31)) (lowF (v >>> ((11 : Int32) &&& 31)) 300), bF (oF v) (if lowF (v >>> ((14 : Int32) &&& 31)) 3 = 0 then 8 else 0) (lowF (v >>> ((14 : Int32) &&& 31)) 300 - 9), (if ((v >>> ((17 : Int32) &&& 31)) &&& (1 : Int32)) = (1 : Int32) then 1 else 0)) := by
  unfold actC
  rw [if_pos (Or.inr (z))]
theorem ac_2 {v at0 : Int32} (z : lowF v 22 = 2) : actC v at0 = (1, kF v, bF (oF v) (1 + lowF (v >>> ((8 : Int32) &&& 31)) 9) (lowF (v >>> ((8 : Int32) &&& 31)) 103 - 1), bF (oF v) (1 + lowF (v >>> ((12 : Int32) &&& 31)) 4) (lowF (v >>> ((12 : Int32) &&& 31)) 54 - 1), 0, 0) := by
  unfold actC
  rw [if_neg (by rw [z]; decide), if_pos (Or.inl z)]
theorem ac_3 {v at0 : Int32} (z : lowF v 22 = 3) : actC v at0 = (1, kF v, bF (oF v) (1 + lowF (v >>> ((8 : Int32) &&& 31)) 9) (lowF (v >>> ((8 : Int32) &&& 31)) 103 - 1), bF (oF v) (1 + lowF (v >>> ((12 : Int32) &&& 31)) 4) (lowF (v >>> ((12 : Int32) &&& 31)) 54 - 1), 0, 0) := by
  unfold actC
  rw [if_neg (by rw [z]; decide), if_pos (Or.inr (Or.inl z))]
theorem ac_4 {v at0 : Int32} (z : lowF v 22 = 4) : actC v at0 = (1, kF v, bF (oF v) (1 + lowF (v >>> ((8 : Int32) &&& 31)) 9) (lowF (v >>> ((8 : Int32) &&& 31)) 103 - 1), bF (oF v) (1 + lowF (v >>> ((12 : Int32) &&& 31)) 4) (lowF (v >>> ((12 : Int32) &&& 31)) 54 - 1), 0, 0) := by
  unfold actC
  rw [if_neg (by rw [z]; decide), if_pos (Or.inr (Or.inr (z)))]
theorem ac_5 {v at0 : Int32} (z : lowF v 22 = 5) : actC v at0 = (2, tF v, 0, 0, 0, 0) := by
  unfold actC
  rw [if_neg (by rw [z]; decide), if_neg (by rw [z]; decide), if_pos z]
theorem ac_6 {v at0 : Int32} (z : lowF v 22 = 6) : actC v at0 = (3, bF (oF v) (lowF (v >>> ((4 : Int32) &&& 31)) 16) (lowF (v >>> ((4 : Int32) &&& 31)) 259 - 1), 0, 0, 0, 0) := by
  unfold actC
  rw [if_neg (by rw [z]; decide), if_neg (by rw [z]; decide), if_neg (by rw [z]; decide), if_pos (Or.inl z)]
theorem ac_7 {v at0 : Int32} (z : lowF v 22 = 7) : actC v at0 = (3, bF (oF v) (lowF (v >>> ((4 : Int32) &&& 31)) 16) (lowF (v >>> ((4 : Int32) &&& 31)) 259 - 1), 0, 0, 0, 0) := by
  unfold actC
  rw [if_neg (by rw [z]; decide), if_neg (by rw [z]; decide), if_neg (by rw [z]; decide), if_pos (Or.inr (Or.inl z))]
theorem ac_8 {v at0 : Int32} (z : lowF v 22 = 8) : actC v at0 = (3, bF (oF v) (lowF (v >>> ((4 : Int32) &&& 31)) 16) (lowF (v >>> ((4 : Int32) &&& 31)) 259 - 1), 0, 0, 0, 0) := by
  unfold actC
  rw [if_neg (by rw [z]; decide), if_neg (by rw [z]; decide), if_neg (by rw [z]; decide), if_pos (Or.inr (Or.inr (z)))]
theorem ac_9 {v at0 : Int32} (z : lowF v 22 = 9) : actC v at0 = (4, gF v, 0, 0, 0, 0) := by
  unfold actC
  rw [if_neg (by rw [z]; decide), if_neg (by rw [z]; decide), if_neg (by rw [z]; decide), if_neg (by rw [z]; decide), if_pos z]
theorem ac_10 {v at0 : Int32} (z : lowF v 22 = 10) : actC v at0 = (5, hF v at0, 0, 0, 0, 0) := by
  unfold actC
  rw [if_neg (by rw [z]; decide), if_neg (by rw [z]; decide), if_neg (by rw [z]; decide), if_neg (by rw [z]; decide), if_neg (by rw [z]; decide), if_pos (Or.inl z)]
theorem ac_11 {v at0 : Int32} (z : lowF v 22 = 11) : actC v at0 = (5, hF v at0, 0, 0, 0, 0) := by
  unfold actC
  rw [if_neg (by rw [z]; decide), if_neg (by rw [z]; decide), if_neg (by rw [z]; decide), if_neg (by rw [z]; decide), if_neg (by rw [z]; decide), if_pos (Or.inr (Or.inl z))]
theorem ac_12 {v at0 : Int32} (z : lowF v 22 = 12) : actC v at0 = (5, hF v at0, 0, 0, 0, 0) := by
  unfold actC
  rw [if_neg (by rw [z]; decide), if_neg (by rw [z]; decide), if_neg (by rw [z]; decide), if_neg (by rw [z]; decide), if_neg (by rw [z]; decide), if_pos (Or.inr (Or.inr (z)))]
theorem ac_13 {v at0 : Int32} (z : lowF v 22 = 13) : actC v at0 = (6, tF v, hF v at0, 0, 0, 0) := by
  unfold actC
  rw [if_neg (by rw [z]; decide), if_neg (by rw [z]; decide), if_neg (by rw [z]; decide), if_neg (by rw [z]; decide), if_neg (by rw [z]; decide), if_neg (by rw [z]; decide), if_pos (Or.inl z)]
theorem ac_14 {v at0 : Int32} (z : lowF v 22 = 14) : actC v at0 = (6, tF v, hF v at0, 0, 0, 0) := by
  unfold actC
  rw [if_neg (by rw [z]; decide), if_neg (by rw [z]; decide), if_neg (by rw [z]; decide), if_neg (by rw [z]; decide), if_neg (by rw [z]; decide), if_neg (by rw [z]; decide), if_pos (Or.inr (z))]
theorem ac_15 {v at0 : Int32} (z : lowF v 22 = 15) : actC v at0 = (7, hF v at0, tF v, 0, 0, 0) := by
  unfold actC
  rw [if_neg (by rw [z]; decide), if_neg (by rw [z]; decide), if_neg (by rw [z]; decide), if_neg (by rw [z]; decide), if_neg (by rw [z]; decide), if_neg (by rw [z]; decide), if_neg (by rw [z]; decide), if_pos (Or.inl z)]
theorem ac_16 {v at0 : Int32} (z : lowF v 22 = 16) : actC v at0 = (7, hF v at0, tF v, 0, 0, 0) := by
  unfold actC
  rw [if_neg (by rw [z]; decide), if_neg (by rw [z]; decide), if_neg (by rw [z]; decide), if_neg (by rw [z]; decide), if_neg (by rw [z]; decide), if_neg (by rw [z]; decide), if_neg (by rw [z]; decide), if_pos (Or.inr (z))]
theorem ac_d {v at0 : Int32} (z : (lowF v 22).toInt < 0 ∨ 16 < (lowF v 22).toInt) : actC v at0 = (8, bF (oF v) (1 + lowF (v >>> ((4 : Int32) &&& 31)) 2) (lowF (v >>> ((4 : Int32) &&& 31)) 23 - 1), 0, 0, 0, 0) := by
  unfold actC
  have n : ∀ k : Int32, 0 ≤ k.toInt → k.toInt ≤ 16 → ¬ lowF v 22 = k := fun k h1 h2 e => by rw [e] at z; omega
  rw [if_neg (fun h => by rcases h with h | h <;> exact n _ (by decide) (by decide) h), if_neg (fun h => by rcases h with h | h | h <;> exact n _ (by decide) (by decide) h), if_neg (n _ (by decide) (by decide)), if_neg (fun h => by rcases h with h | h | h <;> exact n _ (by decide) (by decide) h), if_neg (n _ (by decide) (by decide)), if_neg (fun h => by rcases h with h | h | h <;> exact n _ (by decide) (by decide) h), if_neg (fun h => by rcases h with h | h <;> exact n _ (by decide) (by decide) h), if_neg (fun h => by rcases h with h | h <;> exact n _ (by decide) (by decide) h)]
theorem oj {v : Int32} {J : Int32 → Prop} (k : J (oF v)) : (lowF (v >>> ((24 : Int32) &&& 31)) 9 = 0 → J 1) ∧ (¬ lowF (v >>> ((24 : Int32) &&& 31)) 9 = 0 → J 0) := by
  unfold oF at k
  exact ⟨fun z => by rw [if_pos z] at k; exact k, fun z => by rw [if_neg z] at k; exact k⟩
theorem bj {o a b : Int32} {J : Int32 → Prop} (k : J (bF o a b)) : (o = 0 → J a) ∧ (¬ o = 0 → J b) := by
  unfold bF at k
  exact ⟨fun z => by rw [if_pos z] at k; exact k, fun z => by rw [if_neg z] at k; exact k⟩
theorem bj2 {o c a1 a2 b : Int32} {J : Int32 → Prop} (k : J (bF o (if c = 0 then a1 else a2) b)) : (o = 0 → (c = 0 → J a1) ∧ (¬ c = 0 → J a2)) ∧ (¬ o = 0 → J b) := by
  obtain ⟨k1, k2⟩ := bj k
  exact ⟨fun z => ⟨fun q => by have := k1 z; rw [if_pos q] at this; exact this, fun q => by have := k1 z; rw [if_neg q] at this; exact this⟩, k2⟩
theorem cj {c : Prop} [Decidable c] {a b : Int32} {J : Int32 → Prop} (k : J (if c then a else b)) : (c → J a) ∧ (¬ c → J b) :=
  ⟨fun z => by rw [if_pos z] at k; exact k, fun z => by rw [if_neg z] at k; exact k⟩
theorem hj {v at0 : Int32} {J : Int32 → Prop} (k : J (hF v at0)) : ∀ K : Prop, (J (gF v) → K) → ((oF v = 0 → (at0 < 0 → K) ∧ (¬ at0 < 0 → J at0)) ∧ (¬ oF v = 0 → K)) := fun K hK => by
  unfold hF at k
  refine ⟨fun z => ?_, fun z => ?_⟩
  · rw [if_pos z] at k
    exact ⟨fun q => hK (by rw [if_pos q] at k; exact k), fun q => by rw [if_neg q] at k; exact k⟩
  · rw [if_neg z] at k
    exact hK k
set_option maxHeartbeats 4000000 in
set_option maxRecDepth 100000 in
theorem act_of {dE mc ms K N : Nat} {h : Hp} {x : Nat} {v at0 : Int32} {post : Int32 → Hp → Prop} {px : String → Hp → Prop} (hT7 : hT h x = 7) (hat : ∀ (po : Int32 → Prop) (p9 : String → Prop), po at0 → wp_X5_carAt h x (pF v) po p9) (hK : 1 + K ≤ mc) (hN : 6 + N ≤ ms) (k1 : 1000 ≤ K) (n1 : 9100 ≤ N)
    (H : wpC dE K N h x (actC v at0).1 (actC v at0).2.1 (actC v at0).2.2.1 (actC v at0).2.2.2.1 (actC v at0).2.2.2.2.1 (actC v at0).2.2.2.2.2 post) : wp_L_act dE mc ms h x v post px := by
  unfold wp_L_act
  simp (disch := decide) only [low_eq]
  intro J17 h17
  have key : J17 (oF v) := by
    refine h17 _ ?_
    intro J42 h42
    have key : J42 (kF v) := by
      refine h42 _ ?_
      intro J68 h68
      have key : J68 (gF v) := by
        refine h68 _ ?_
        intro J97 h97
        have key : J97 (tF v) := by
          refine h97 _ ⟨by omega, by omega, hT7, hat _ _ ?_⟩
          intro J130 h130
          have key : J130 (hF v at0) := by
            refine h130 _ ?_
            intro J220 h220 J331 h331 J401 h401 J439 h439 J446 h446 J455 h455
            refine ⟨fun z => h220 ?_, fun z => h220 ?_, fun z => h331 ?_, fun z => h331 ?_, fun z => h331 ?_, fun z => ?_, fun z => h401 ?_, fun z => h401 ?_, fun z => h401 ?_, fun z => ?_, fun z => h439 ?_, fun z => h439 ?_, fun z => h439 ?_, fun z => h446 ?_, fun z => h446 ?_, fun z => h455 ?_, fun z => h455 ?_, fun z => ?_⟩
            · rw [ac_0 z] at H
              intro L1 g1
              have e1 : L1 (bF (oF v) (lowF (v >>> ((8 : Int32) &&& 31)) 5) (lowF (v >>> ((8 : Int32) &&& 31)) 8 - 1)) := by
                refine g1 _ ?_
                intro L2 g2
                have e2 : L2 (bF (oF v) ((1 : Int32) <<< ((lowF (v >>> ((11 : Int32) &&& 31)) 3) &&& 31)) (lowF (v >>> ((11 : Int32) &&& 31)) 300)) := by
                  refine g2 _ ?_
                  intro L3 g3
                  have e3 : L3 (bF (oF v) (if lowF (v >>> ((14 : Int32) &&& 31)) 3 = 0 then 8 else 0) (lowF (v >>> ((14 : Int32) &&& 31)) 300 - 9)) := by
                    refine g3 _ ?_
                    intro L4 g4
                    exact cj (g4 _ ⟨by omega, by omega, H⟩)
                  exact bj2 e3
                exact bj e2
              exact bj e1
            · rw [ac_1 z] at H
              intro L1 g1
              have e1 : L1 (bF (oF v) (lowF (v >>> ((8 : Int32) &&& 31)) 5) (lowF (v >>> ((8 : Int32) &&& 31)) 8 - 1)) := by
                refine g1 _ ?_
                intro L2 g2
                have e2 : L2 (bF (oF v) ((1 : Int32) <<< ((lowF (v >>> ((11 : Int32) &&& 31)) 3) &&& 31)) (lowF (v >>> ((11 : Int32) &&& 31)) 300)) := by
                  refine g2 _ ?_
                  intro L3 g3
                  have e3 : L3 (bF (oF v) (if lowF (v >>> ((14 : Int32) &&& 31)) 3 = 0 then 8 else 0) (lowF (v >>> ((14 : Int32) &&& 31)) 300 - 9)) := by
                    refine g3 _ ?_
                    intro L4 g4
                    exact cj (g4 _ ⟨by omega, by omega, H⟩)
                  exact bj2 e3
                exact bj e2
              exact bj e1
            · rw [ac_2 z] at H
              intro L1 g1
              have e1 : L1 (bF (oF v) (1 + lowF (v >>> ((8 : Int32) &&& 31)) 9) (lowF (v >>> ((8 : Int32) &&& 31)) 103 - 1)) := by
                refine g1 _ ?_
                intro L2 g2
                exact bj (g2 _ ⟨by omega, by omega, H⟩)
              exact bj e1
            · rw [ac_3 z] at H
              intro L1 g1
              have e1 : L1 (bF (oF v) (1 + lowF (v >>> ((8 : Int32) &&& 31)) 9) (lowF (v >>> ((8 : Int32) &&& 31)) 103 - 1)) := by
                refine g1 _ ?_
                intro L2 g2
                exact bj (g2 _ ⟨by omega, by omega, H⟩)
              exact bj e1
            · rw [ac_4 z] at H
              intro L1 g1
              have e1 : L1 (bF (oF v) (1 + lowF (v >>> ((8 : Int32) &&& 31)) 9) (lowF (v >>> ((8 : Int32) &&& 31)) 103 - 1)) := by
                refine g1 _ ?_
                intro L2 g2
                exact bj (g2 _ ⟨by omega, by omega, H⟩)
              exact bj e1
            · rw [ac_5 z] at H
              exact ⟨by omega, by omega, H⟩
            · rw [ac_6 z] at H
              intro L1 g1
              exact bj (g1 _ ⟨by omega, by omega, H⟩)
            · rw [ac_7 z] at H
              intro L1 g1
              exact bj (g1 _ ⟨by omega, by omega, H⟩)
            · rw [ac_8 z] at H
              intro L1 g1
              exact bj (g1 _ ⟨by omega, by omega, H⟩)
            · rw [ac_9 z] at H
              exact ⟨by omega, by omega, H⟩
            · rw [ac_10 z] at H
              exact ⟨by omega, by omega, H⟩
            · rw [ac_11 z] at H
              exact ⟨by omega, by omega, H⟩
            · rw [ac_12 z] at H
              exact ⟨by omega, by omega, H⟩
            · rw [ac_13 z] at H
              exact ⟨by omega, by omega, H⟩
            · rw [ac_14 z] at H
              exact ⟨by omega, by omega, H⟩
            · rw [ac_15 z] at H
              exact ⟨by omega, by omega, H⟩
            · rw [ac_16 z] at H
              exact ⟨by omega, by omega, H⟩
            · rw [ac_d z] at H
              intro L1 g1
              exact bj (g1 _ ⟨K, N, hK, hN, H⟩)
          exact hj key
        exact bj key
      exact bj key
    exact bj key
  exact oj key
/-- a step: it has one answer and one state behind it -/
theorem act_ok {σ : St} (w : WE σ) (hb : σ 1 5 2 < 18000000) (v : Int32) : ∃ (r : Int32) (S : St), ST σ S 400 ∧ (S = σ ∨ ¬ r = -99999) ∧
    ∀ (dE : Nat) (ad : Nat → Nat → Nat) (μ : Mu) (h : Hp) (mc ms : Nat) (post : Int32 → Hp → Prop) (px : String → Hp → Prop), RR dE ad σ μ h → 1001 ≤ mc → 9106 + 4 * (S 9 5 0 - σ 9 5 0) ≤ ms → (∀ ad' h', ad' 7 0 = ad 7 0 → RR dE ad' S μ h' → post r h') → wp_L_act dE mc ms h (ad 7 0) v post px := by
  obtain ⟨m, hm, em⟩ := lowF_n (v >>> ((4 : Int32) &&& 31)) (n := 3) (by decide) (by decide)
  have ep : pF v = nI (5 + m) := by
    show (5 : Int32) + lowF (v >>> ((4 : Int32) &&& 31)) (nI 3) = _
    rw [em]
    exact nI_add 5 m
  generalize e0 : nI (σ 25 0 (5 + m)) - nI 1 = at0
  have he : (actC v at0).1 = 0 → b01 (actC v at0).2.2.2.2.2 := by
    intro z
    rcases sw_17 (lowF v 22) with q | q | q | q | q | q | q | q | q | q | q | q | q | q | q | q | q | q
    · rw [ac_d q] at z; cases z
    · rw [ac_0 q]
      show b01 (if _ then _ else _)
      split
      · exact Or.inr rfl
      · exact Or.inl rfl
    · rw [ac_1 q]
      show b01 (if _ then _ else _)
      split
      · exact Or.inr rfl
      · exact Or.inl rfl
    · rw [ac_2 q] at z; cases z
    · rw [ac_3 q] at z; cases z
    · rw [ac_4 q] at z; cases z
    · rw [ac_5 q] at z; cases z
    · rw [ac_6 q] at z; cases z
    · rw [ac_7 q] at z; cases z
    · rw [ac_8 q] at z; cases z
    · rw [ac_9 q] at z; cases z
    · rw [ac_10 q] at z; cases z
    · rw [ac_11 q] at z; cases z
    · rw [ac_12 q] at z; cases z
    · rw [ac_13 q] at z; cases z
    · rw [ac_14 q] at z; cases z
    · rw [ac_15 q] at z; cases z
    · rw [ac_16 q] at z; cases z
  obtain ⟨r, S, st, hr, g⟩ := CO_all w hb (actC v at0).1 (actC v at0).2.1 (actC v at0).2.2.1 (actC v at0).2.2.2.1 (actC v at0).2.2.2.2.1 (actC v at0).2.2.2.2.2 he
  refine ⟨r, S, st, hr, fun dE ad μ h mc ms post px rr h1 h2 hp => ?_⟩
  refine act_of (K := 1000) (N := 9100 + 4 * (S 9 5 0 - σ 9 5 0)) (at0 := at0) (t_7 rr w.1.1.1) (fun po p9 hpo => ?_) (by omega) (by omega) (Nat.le_refl _) (by omega) (g dE ad μ h 1000 _ post rr (Nat.le_refl _) (Nat.le_refl _) hp)
  rw [ep]
  exact c_carAt2 rr w.1.1.1 w.1.1.2.1 (by omega) (by rw [e0]; exact hpo)
