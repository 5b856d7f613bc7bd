/-! the start: a new line -/
def iniP (A B : List (Nat × Nat)) (K : Nat) : St := fun t i j => if t = 11 then (if (i, j) ∈ A then 1 else 0) else if t = 12 then (if (i, j) ∈ B then 1 else 0) else if t = 4 ∧ j = 1 ∧ i < K then 255 else 0
theorem ip11 (A B : List (Nat × Nat)) (K t i : Nat) : iniP A B K 11 t i = if (t, i) ∈ A then 1 else 0 := rfl
theorem ip12 (A B : List (Nat × Nat)) (K t i : Nat) : iniP A B K 12 t i = if (t, i) ∈ B then 1 else 0 := rfl
theorem ipx {A B : List (Nat × Nat)} {K a b c : Nat} (h1 : a ≠ 11) (h2 : a ≠ 12) (h3 : ¬ (a = 4 ∧ c = 1 ∧ b < K)) : iniP A B K a b c = 0 := by
  unfold iniP
  rw [if_neg h1, if_neg h2, if_neg h3]
theorem ipV {A B : List (Nat × Nat)} {K t i : Nat} : V (iniP A B K) t i ↔ (t, i) ∈ A := by
  unfold V
  rw [ip11]
  by_cases h : (t, i) ∈ A
  · rw [if_pos h]; exact ⟨fun _ => h, fun _ => by decide⟩
  · rw [if_neg h]; exact ⟨fun z => absurd rfl z, fun z => absurd z h⟩
theorem ip_new {A B : List (Nat × Nat)} {K t i : Nat} : up (iniP A B K) 11 t i 1 = iniP ((t, i) :: A) B K := by
  funext a b c
  unfold up iniP
  by_cases h : a = 11
  · subst h
    by_cases e : b = t ∧ c = i
    · obtain ⟨rfl, rfl⟩ := e
      simp
    · have : ¬ ((b, c) = (t, i)) := fun z => e (by injection z with z1 z2; exact ⟨z1, z2⟩)
      simp only [List.mem_cons, this, false_or]
      rw [if_neg (fun z => e z.2)]
  · rw [if_neg (fun z => h z.1), if_neg h, if_neg h]
theorem ip_link {A B : List (Nat × Nat)} {K t i : Nat} : up (iniP A B K) 12 t i 1 = iniP A ((t, i) :: B) K := by
  funext a b c
  unfold up iniP
  by_cases h : a = 12
  · subst h
    by_cases e : b = t ∧ c = i
    · obtain ⟨rfl, rfl⟩ := e
      simp
    · have : ¬ ((b, c) = (t, i)) := fun z => e (by injection z with z1 z2; exact ⟨z1, z2⟩)
      simp only [List.mem_cons, this, false_or]
      rw [if_neg (fun z => e z.2)]
  · rw [if_neg (fun z => h z.1)]
    by_cases h1 : a = 11
    · rw [if_pos h1, if_pos h1]
    · rw [if_neg h1, if_neg h1, if_neg h, if_neg h]
theorem ip_kind {A B : List (Nat × Nat)} {K : Nat} : up (iniP A B K) 4 K 1 255 = iniP A B (K + 1) := by
  funext a b c
  unfold up iniP
  by_cases h : a = 4 ∧ b = K ∧ c = 1
  · obtain ⟨rfl, rfl, rfl⟩ := h
    rw [if_pos ⟨rfl, rfl, rfl⟩, if_neg (by decide), if_neg (by decide), if_pos ⟨rfl, rfl, by omega⟩]
  · rw [if_neg h]
    by_cases h1 : a = 11
    · rw [if_pos h1, if_pos h1]
    · rw [if_neg h1, if_neg h1]
      by_cases h2 : a = 12
      · rw [if_pos h2, if_pos h2]
      · rw [if_neg h2, if_neg h2]
        by_cases h3 : a = 4 ∧ c = 1 ∧ b < K
        · rw [if_pos h3, if_pos ⟨h3.1, h3.2.1, by omega⟩]
        · rw [if_neg h3, if_neg (fun z => h (by omega))]
theorem ip_zero {A B : List (Nat × Nat)} {K t i j : Nat} (h : iniP A B K t i j = 0) : up (iniP A B K) t i j 0 = iniP A B K := by
  have := up_same (σ := iniP A B K) (t := t) (i := i) (j := j)
  rw [h] at this
  exact this
def iAL : List (Nat × Nat) := [(25, 0), (1, 5), (1, 4), (1, 3), (1, 2), (1, 1), (23, 0), (7, 0), (27, 0)]
def iBL : List (Nat × Nat) := [(7, 6), (7, 5), (1, 5), (7, 4), (1, 4), (7, 3), (1, 3), (7, 2), (1, 2), (7, 1), (1, 1), (7, 0)]
def kA : Nat → List (Nat × Nat) → List (Nat × Nat)
  | 0, A => A
  | k + 1, A => (4, k) :: kA k A
def kB : Nat → List (Nat × Nat) → List (Nat × Nat)
  | 0, A => A
  | k + 1, A => (23, k) :: kB k A
theorem kA_mem {t i : Nat} {A : List (Nat × Nat)} (h : t ≠ 4) : ∀ k, (t, i) ∈ kA k A ↔ (t, i) ∈ A := by
  intro k
  induction k with
  | zero => exact Iff.rfl
  | succ k ih =>
    show (t, i) ∈ (4, k) :: kA k A ↔ _
    rw [List.mem_cons, ih]
    exact ⟨fun z => z.elim (fun e => by injection e with e1 e2; exact absurd e1 h) id, Or.inr⟩
theorem kA_4 {A : List (Nat × Nat)} (h : ∀ i, (4, i) ∉ A) : ∀ k i, (4, i) ∈ kA k A ↔ i < k := by
  intro k
  induction k with
  | zero => exact fun i => ⟨fun z => absurd z (h i), fun z => absurd z (Nat.not_lt_zero i)⟩
  | succ k ih =>
    intro i
    show (4, i) ∈ (4, k) :: kA k A ↔ _
    rw [List.mem_cons, ih]
    constructor
    · rintro (e | e)
      · injection e with e1 e2; omega
      · omega
    · intro z
      by_cases e : i = k
      · exact Or.inl (by rw [e])
      · exact Or.inr (by omega)
theorem kB_mem {t i : Nat} {A : List (Nat × Nat)} (h : t ≠ 23) : ∀ k, (t, i) ∈ kB k A ↔ (t, i) ∈ A := by
  intro k
  induction k with
  | zero => exact Iff.rfl
  | succ k ih =>
    show (t, i) ∈ (23, k) :: kB k A ↔ _
    rw [List.mem_cons, ih]
    exact ⟨fun z => z.elim (fun e => by injection e with e1 e2; exact absurd e1 h) id, Or.inr⟩
section IN
variable {dE : Nat} {ad : Nat → Nat → Nat} {ρ : St} {μ : Mu} {h : Hp}
theorem n_new {A B : List (Nat × Nat)} {K t i q n : Nat} (r : RR dE ad (iniP A B K) μ h) (z : hT h q = 0) (nv : (t, i) ∉ A) (t0 : tgL t ≠ 0) (hn : n = lnL (iniP A B K) t i) (hK : t = 4 → K ≤ i) (hB : ∀ j, t = 7 ∨ t = 8 ∨ t = 23 → (t, j) ∉ B) (hB1 : t = 1 ∨ t = 2 ∨ t = 3 → (t, i) ∉ B) (n8 : t = 8 → ∀ j, isM j = true → ms μ j = 0) (hm : isMA t = true → t ≠ 56 → ∀ n, n < lnM t → mv μ t n = 0) (t1 : t ≠ 11 ∧ t ≠ 12) :
    ∃ ad', RR dE ad' (iniP ((t, i) :: A) B K) μ (sN h q (tgL t) n) ∧ ad' t i = q ∧ ∀ a b, ¬ (a = t ∧ b = i) → ad' a b = ad a b := by
  refine ⟨au ad t i q, ?_, au_eq, fun a b ne => au_ne ne⟩
  rw [← ip_new]
  refine r.new z (fun v => nv (ipV.mp v)) t0 hn (fun j w => ipx t1.1 t1.2 (fun y => by have := hK y.1; omega)) (fun j y hy => ?_) n8 hm (fun e1 e2 => ipx (by decide) (by decide) (by simp))
  unfold cr at hy
  split at hy
  · rw [ip12, if_neg (hB j (by omega)), if_pos rfl] at hy; cases hy
  · rw [ip12, if_neg (hB j (by omega)), if_pos rfl] at hy; cases hy
  · rw [ip12, if_neg (hB j (by omega)), if_pos rfl] at hy; cases hy
  · rw [ip12, if_neg (hB1 (by omega)), if_pos (Or.inl rfl)] at hy; cases hy
  · rw [ipx (by decide) (by decide) (by simp)] at hy
    injection hy with hy
    rw [← hy]; rfl
  · rw [ipx (by decide) (by decide) (by simp)] at hy
    injection hy with hy
    rw [← hy]; rfl
  · by_cases j2 : j = 2
    · rw [if_pos j2, ip12, if_neg (hB1 (by omega)), if_pos rfl] at hy; cases hy
    · rw [if_neg j2] at hy
      by_cases j5 : j = 5
      · rw [if_pos j5, ipx (by decide) (by decide) (by simp)] at hy
        injection hy with hy
        rw [← hy]; rfl
      · rw [if_neg j5] at hy; cases hy
  · rw [ip12, if_neg (hB1 (by omega)), if_pos (Or.inl rfl)] at hy; cases hy
  · rw [ipx (by decide) (by decide) (by simp), if_neg (Nat.not_lt_zero _)] at hy; cases hy
  · cases hy
theorem n_link7 {A B : List (Nat × Nat)} {K j : Nat} {p : Nat × Nat} (r : RR dE ad (iniP A B K) μ h) (v7 : (7, 0) ∈ A) (vp : p ∈ A) (u : ∀ b, (7, b) ∈ A → b = 0) (hp : (j = 0 ∧ p = (23, 0)) ∨ (1 ≤ j ∧ j ≤ 5 ∧ p = (1, j)) ∨ (j = 6 ∧ p = (25, 0))) : RR dE ad (iniP A ((7, j) :: B) K) μ (sR h (ad 7 0) j (some (ad p.1 p.2))) := by
  rw [← ip_link]
  refine r.link (ipV.mpr v7) (ipV.mpr vp) (fun y hy => ?_) (fun a b k va ne => cr_12 (fun e => ⟨fun _ kj => ?_, fun z => by omega, fun z => by omega⟩))
  · have hy : (if up (iniP A B K) 12 7 j 1 12 7 j = 0 then none else if j = 0 then some (some (23, 0)) else if 1 ≤ j ∧ j ≤ 5 then some (some (1, j)) else if j = 6 then some (some (25, 0)) else none) = some y := hy
    rw [up_eq, if_neg (by decide)] at hy
    rcases hp with ⟨rfl, rfl⟩ | ⟨h1, h5, rfl⟩ | ⟨rfl, rfl⟩
    · rw [if_pos rfl] at hy; injection hy with hy; exact hy.symm
    · rw [if_neg (by omega), if_pos ⟨h1, h5⟩] at hy; injection hy with hy; exact hy.symm
    · rw [if_neg (by decide), if_neg (by decide), if_pos rfl] at hy; injection hy with hy; exact hy.symm
  · subst e
    exact ne ⟨rfl, u b (ipV.mp va), kj⟩
theorem n_link23 {A B : List (Nat × Nat)} {K j : Nat} (r : RR dE ad (iniP A B K) μ h) (v8 : (23, 0) ∈ A) (vp : (4, j) ∈ A) (u : ∀ b, (23, b) ∈ A → b = 0) : RR dE ad (iniP A ((23, j) :: B) K) μ (sR h (ad 23 0) j (some (ad 4 j))) := by
  rw [← ip_link]
  refine r.link (p := (4, j)) (ipV.mpr v8) (ipV.mpr vp) (fun y hy => ?_) (fun a b k va ne => cr_12 (fun e => ⟨fun _ kj => ?_, fun z => by omega, fun z => by omega⟩))
  · have hy : (if up (iniP A B K) 12 23 j 1 12 23 j = 0 then none else some (some (4, j))) = some y := hy
    rw [up_eq, if_neg (by decide)] at hy
    injection hy with hy; exact hy.symm
  · subst e
    exact ne ⟨rfl, u b (ipV.mp va), kj⟩
theorem n_link1 {A B : List (Nat × Nat)} {K i : Nat} (r : RR dE ad (iniP A B K) μ h) (v1 : (1, i) ∈ A) (vp : (27, 0) ∈ A) : RR dE ad (iniP A ((1, i) :: B) K) μ (sR h (ad 1 i) 1 (some (ad 27 0))) := by
  rw [← ip_link]
  refine r.link (p := (27, 0)) (ipV.mpr v1) (ipV.mpr vp) (fun y hy => ?_) (fun a b k va ne => cr_12 (fun e => ⟨fun z => by omega, fun _ => ?_, fun z => by omega⟩))
  · have hy : (if up (iniP A B K) 12 1 i 1 12 1 i = 0 ∨ 1 ≠ 1 then none else some (some (if up (iniP A B K) 12 1 i 1 9 i 0 = 0 then (27, 0) else (26, i)))) = some y := hy
    rw [up_eq, if_neg (by simp), up_ne (fun z => by cases z.1), ipx (by decide) (by decide) (by simp), if_pos rfl] at hy
    injection hy with hy; exact hy.symm
  · by_cases bi : b = i
    · exact Or.inr (fun k1 => ne ⟨e, bi, k1⟩)
    · exact Or.inl bi
theorem p_list {A B : List (Nat × Nat)} {i : Nat} (h1 : 1 ≤ i) (h5 : i ≤ 5) (r : RR dE ad (iniP A B 0) μ h) (v7 : (7, 0) ∈ A) (v27 : (27, 0) ∈ A) (u : ∀ b, (7, b) ∈ A → b = 0) (n1 : (1, i) ∉ A) (nb : (1, i) ∉ B) {post : Hp → Prop} (hp : ∀ ad' h', ad' 7 0 = ad 7 0 → RR dE ad' (iniP ((1, i) :: A) ((7, i) :: (1, i) :: B) 0) μ h' → post h') : ∀ q, hT h q = 0 → ∀ h9, h9 = sN h q 1 0 → wp_Jx4a65c_init_da8c8 dE h9 q (fun h11 => (hT h11 (ad 7 0) = 7 ∧ (∀ h13, h13 = sR h11 (ad 7 0) i (some q) → post h13))) := by
  intro q zq h9 e9
  obtain ⟨ad1, r1, e1, o1⟩ := n_new (t := 1) (i := i) (n := 0) r zq n1 (by decide) rfl (fun e => by cases e) (fun j e => by omega) (fun _ => nb) (fun e => by cases e) (fun e => by cases e) (by decide)
  have e9 : h9 = sN h q (tgL 1) 0 := e9
  rw [← e9] at r1
  have v1 : (1, i) ∈ (1, i) :: A := List.mem_cons_self
  have d27 : ad1 27 0 = dE := r1.eD
  have a7 : ad1 7 0 = ad 7 0 := o1 _ _ (fun z => by cases z.1)
  unfold wp_Jx4a65c_init_da8c8 wp_Jxc12de_init_da8c8 wp_Jxa1e45_init_da8c8
  have w1 : V (iniP ((1, i) :: A) B 0) 1 i := ipV.mpr v1
  refine ⟨by rw [← e1]; exact r1.tag w1, fun h3 e3 => ?_⟩
  have r2 : RR dE ad1 (iniP ((1, i) :: A) B 0) μ h3 := by rw [e3, ← e1]; exact r1.rawI w1 rfl (by decide) rfl
  refine ⟨by rw [← e1]; exact r2.tag w1, fun h4 e4 => ?_⟩
  have r3 : RR dE ad1 (iniP ((1, i) :: A) ((1, i) :: B) 0) μ h4 := by
    have this := n_link1 r2 v1 (List.mem_cons_of_mem _ v27)
    rw [d27, e1] at this
    rw [e4]; exact this
  refine ⟨by rw [← a7]; exact r3.tag (ipV.mpr (List.mem_cons_of_mem _ v7)), fun h13 e13 => hp ad1 h13 a7 ?_⟩
  rw [e13, ← a7, ← e1]
  exact n_link7 (p := (1, i)) r3 (List.mem_cons_of_mem _ v7) v1 (fun b hb => (List.mem_cons.mp hb).elim (fun e => by cases e) (u b)) (Or.inr (Or.inl ⟨h1, h5, rfl⟩))
theorem p_init (r : RR dE ad (iniP [(7, 0), (27, 0)] [] 0) μ h) {mc ms : Nat} (h1 : 17 ≤ mc) (h2 : 73 ≤ ms) {post : Hp → Prop} (hp : ∀ ad' h', ad' 7 0 = ad 7 0 → RR dE ad' (iniP (kA 10 iAL) (kB 10 iBL) 10) μ h' → post h') : wp_X5_init dE mc ms h (ad 7 0) post := by
  unfold wp_X5_init
  refine ⟨by omega, by omega, fun q1 z1 h3 e3 => ?_⟩
  obtain ⟨ad1, r1, e1, o1⟩ := n_new (t := 23) (i := 0) (n := 10) r z1 (by decide) (by decide) rfl (fun e => by cases e) (fun j _ => by simp) (fun e => by omega) (fun e => by cases e) (fun e => by cases e) (by decide)
  have e3 : h3 = sN h q1 (tgL 23) 10 := e3
  rw [← e3] at r1
  have a7 : ad1 7 0 = ad 7 0 := o1 _ _ (fun z => by cases z.1)
  rw [← a7]
  refine ⟨r1.tag (ipV.mpr (by decide)), fun h6 e6 => ?_⟩
  have r2 : RR dE ad1 (iniP [(23, 0), (7, 0), (27, 0)] [(7, 0)] 0) μ h6 := by rw [e6, ← e1]; exact n_link7 (p := (23, 0)) r1 (by decide) (by decide) (fun b hb => by simpa using hb) (Or.inl ⟨rfl, rfl⟩)
  refine ⟨by omega, by omega, p_list (i := 1) (by decide) (by decide) r2 (by decide) (by decide) (fun b hb => by simpa using hb) (by decide) (by decide) (fun ad2 k2 b2 r3 => ?_)⟩
  rw [← b2]
  refine ⟨by omega, by omega, p_list (i := 2) (by decide) (by decide) r3 (by decide) (by decide) (fun b hb => by simpa using hb) (by decide) (by decide) (fun ad3 k3 b3 r4 => ?_)⟩
  rw [← b3]
  refine ⟨by omega, by omega, p_list (i := 3) (by decide) (by decide) r4 (by decide) (by decide) (fun b hb => by simpa using hb) (by decide) (by decide) (fun ad4 k4 b4 r5 => ?_)⟩
  rw [← b4]
  refine ⟨by omega, by omega, p_list (i := 4) (by decide) (by decide) r5 (by decide) (by decide) (fun b hb => by simpa using hb) (by decide) (by decide) (fun ad5 k5 b5 r6 => ?_)⟩
  rw [← b5]
  refine ⟨by omega, by omega, p_list (i := 5) (by decide) (by decide) r6 (by decide) (by decide) (fun b hb => by simpa using hb) (by decide) (by decide) (fun ad6 k6 b6 r7 => ?_)⟩
  rw [← b6]
  refine ⟨by omega, by omega, fun q42 z42 h44 e44 h48 e48 => ?_⟩
  obtain ⟨ad7, r8, e7, o7⟩ := n_new (t := 25) (i := 0) (n := 8) r7 z42 (by decide) (by decide) rfl (fun e => by cases e) (fun j e => by omega) (fun e => by omega) (fun e => by cases e) (fun e => by cases e) (by decide)
  have e44 : h44 = sN k6 q42 (tgL 25) 8 := e44
  rw [← e44] at r8
  have b7 : ad7 7 0 = ad6 7 0 := o7 _ _ (fun z => by cases z.1)
  rw [← b7] at e48 ⊢
  have r9 : RR dE ad7 (iniP iAL iBL 0) μ h48 := by rw [e48, ← e7]; exact n_link7 (p := (25, 0)) r8 (by decide) (by decide) (fun b hb => by simpa [iAL] using hb) (Or.inr (Or.inr ⟨rfl, rfl⟩))
  intro J hJ
  have u7 : ∀ b, (7, b) ∈ iAL → b = 0 := fun b hb => by simpa [iAL] using hb
  have u23 : ∀ b, (23, b) ∈ iAL → b = 0 := fun b hb => by simpa [iAL] using hb
  have n4 : ∀ b, (4, b) ∉ iAL := fun b hb => by simp [iAL] at hb
  refine lpA (J := fun (x : Hp × Nat × Nat) v => J v x.1 x.2.1 x.2.2) (x := (h48, 7, 33)) (fun x v hb => hJ v x.1 x.2.1 x.2.2 hb) 10 (fun k x => ∃ ad', ad' 7 0 = ad7 7 0 ∧ RR dE ad' (iniP (kA k iAL) (kB k iBL) k) μ x.1 ∧ x.2.1 = 7 + k ∧ x.2.2 = 33 + 4 * k) ⟨ad7, rfl, r9, rfl, rfl⟩ (fun k x hk e hs => ?_)
  obtain ⟨hx, c2, s2⟩ := x
  obtain ⟨ad', a7', rk, ec, es⟩ := e
  have ec : c2 = 7 + k := ec
  have es : s2 = 33 + 4 * k := es
  have rk : RR dE ad' (iniP (kA k iAL) (kB k iBL) k) μ hx := rk
  subst ec es
  dsimp only
  rw [← a7']
  have m7 : (7, 0) ∈ kA k iAL := (kA_mem (by decide) k).mpr (by decide)
  have m23 : (23, 0) ∈ kA k iAL := (kA_mem (by decide) k).mpr (by decide)
  by_cases hk2 : k < 10
  · refine ⟨fun q => absurd q (nI_ge (b := 10) hk2 (by omega)), fun _ => ⟨rk.tag (ipV.mpr m7), ad' 23 0, ?_, by omega, by omega, fun q53 z53 h54 e54 => ?_⟩⟩
    · refine rk.ref (x := some (23, 0)) (ipV.mpr m7) ?_
      show (if iniP (kA k iAL) (kB k iBL) k 12 7 0 = 0 then none else if 0 = 0 then some (some (23, 0)) else _) = _
      rw [ip12, if_pos ((kB_mem (by decide) k).mpr (by decide)), if_neg (by decide), if_pos rfl]
    · obtain ⟨ad2, s1, f1, o2⟩ := n_new (t := 4) (i := k) (n := 0) rk z53 (fun z => by have := (kA_4 n4 k k).mp z; omega) (by decide) rfl (fun _ => Nat.le_refl _) (fun j e => by omega) (fun e => by omega) (fun e => by cases e) (fun e => by cases e) (by decide)
      have e54 : h54 = sN hx q53 (tgL 4) 0 := e54
      rw [← e54] at s1
      have g7 : ad2 7 0 = ad' 7 0 := o2 _ _ (fun z => by cases z.1)
      have g23 : ad2 23 0 = ad' 23 0 := o2 _ _ (fun z => by cases z.1)
      have vk : V (iniP ((4, k) :: kA k iAL) (kB k iBL) k) 4 k := ipV.mpr List.mem_cons_self
      have vk' : V (iniP ((4, k) :: kA k iAL) (kB k iBL) (k + 1)) 4 k := ipV.mpr List.mem_cons_self
      unfold wp_X2_init
      refine ⟨by rw [← f1]; exact s1.tag vk, fun h2 e2 h4 e4 h6 e6 h8 e8 => ?_⟩
      have s2 := s1.setI (v := 0) vk (j := 0) rfl (by decide)
      rw [ip_zero (ipx (by decide) (by decide) (by simp)), f1] at s2
      have e2 : h2 = sI h54 q53 0 (nI 0) := e2
      rw [← e2] at s2
      have s3 := s2.setI (v := 255) vk (j := 1) rfl (by decide)
      rw [ip_kind, f1] at s3
      have e4 : h4 = sI h2 q53 1 (nI 255) := e4
      rw [← e4] at s3
      have s4 := s3.setI (v := 0) vk' (j := 2) rfl (by decide)
      rw [ip_zero (ipx (by decide) (by decide) (by simp)), f1] at s4
      have e6 : h6 = sI h4 q53 2 (nI 0) := e6
      rw [← e6] at s4
      have s5 := s4.setI (v := 0) vk' (j := 3) rfl (by decide)
      rw [ip_zero (ipx (by decide) (by decide) (by simp)), f1] at s5
      have e8 : h8 = sI h6 q53 3 (nI 0) := e8
      rw [← e8] at s5
      have m23' : (23, 0) ∈ (4, k) :: kA k iAL := List.mem_cons_of_mem _ m23
      have l23 : hL h8 (ad2 23 0) = 10 := s5.len (ipV.mpr m23')
      refine ⟨by rw [← g23]; exact s5.tag (ipV.mpr m23'), k, rfl, by omega, by rw [← g23]; omega, by rw [← f1]; exact s5.tag vk', fun h60 e60 => ?_⟩
      have s6 : RR dE ad2 (iniP (kA (k + 1) iAL) (kB (k + 1) iBL) (k + 1)) μ h60 := by
        rw [e60, ← g23, ← f1]
        exact n_link23 s5 m23' List.mem_cons_self (fun b hb => (List.mem_cons.mp hb).elim (fun e => by cases e) (fun z => u23 b ((kA_mem (by decide) k).mp z)))
      have := hs (h60, 7 + k + 1 + 0, 33 + 4 * k + 4 + 0) hk2 ⟨ad2, g7.trans a7', s6, by show 7 + k + 1 + 0 = 7 + (k + 1); omega, by show 33 + 4 * k + 4 + 0 = 33 + 4 * (k + 1); omega⟩
      rw [← nI_1 k] at this
      exact this
  · have : k = 10 := by omega
    subst this
    exact ⟨fun _ => hp ad' hx (a7'.trans (b7.trans (b6.trans (b5.trans (b4.trans (b3.trans (b2.trans a7))))))) rk, fun q => absurd (nI_le (Nat.le_refl 10) (by omega)) q⟩
/-- what there is when a line is new -/
abbrev iAg : List (Nat × Nat) := kA 10 iAL
abbrev iBg : List (Nat × Nat) := kB 10 iBL
theorem WE_ini : WE (iniP iAg iBg 10) := by
  have z : ∀ {a b c : Nat}, a ≠ 11 → a ≠ 12 → a ≠ 4 → iniP iAg iBg 10 a b c = 0 := fun h1 h2 h3 => ipx h1 h2 (fun q => h3 q.1)
  have no : ∀ t i, t = 5 ∨ t = 2 ∨ t = 24 ∨ t = 3 ∨ t = 19 ∨ t = 6 ∨ t = 26 → ¬ V (iniP iAg iBg 10) t i := by
    intro t i ht v
    have v := ipV.mp v
    rcases ht with rfl | rfl | rfl | rfl | rfl | rfl | rfl <;> simp [kA, iAL] at v
  have s : ∀ i, iniP iAg iBg 10 1 i 2 = 0 := fun i => z (by decide) (by decide) (by decide)
  have v4 : ∀ k j, j ≠ 1 → iniP iAg iBg 10 4 k j = 0 := fun k j h => ipx (by decide) (by decide) (fun q => h q.2.1)
  have lk : ∀ {t i : Nat}, (t, i) ∈ iBg → iniP iAg iBg 10 12 t i ≠ 0 := fun h => by rw [ip12, if_pos h]; decide
  refine ⟨⟨⟨?_, ?_, ?_, ?_, ?_⟩, ?_, ?_⟩, ?_, fun c => ?_⟩
  · refine ⟨⟨ipV.mpr (by decide), ipV.mpr (by decide), ipV.mpr (by decide), ipV.mpr (by decide), lk (by decide), lk (by decide)⟩, fun k hk => ?_, fun i h1 h5 => ?_, fun t m => ?_, fun i => ?_, fun i => ?_, fun i => ?_, fun i => ?_, fun i h1 h5 => ?_⟩
    · have : ∀ k, k < 10 → (4, k) ∈ iAg ∧ (23, k) ∈ iBg := by decide
      exact ⟨ipV.mpr (this k hk).1, lk (this k hk).2⟩
    · have all : ∀ k, k < 5 → (1, k + 1) ∈ iAg ∧ (1, k + 1) ∈ iBg ∧ (7, k + 1) ∈ iBg := by decide
      have this := all (i - 1) (by omega)
      have ei : i - 1 + 1 = i := by omega
      rw [ei] at this
      obtain ⟨a, b, c⟩ := this
      exact ⟨ipV.mpr a, lk b, lk c⟩
    · cases m
    · rw [s]; exact ⟨fun v => absurd v (no 5 i (by simp)), fun q => absurd q (Nat.not_lt_zero _)⟩
    · rw [s]; exact ⟨⟨fun v => absurd v (no 2 i (by simp)), fun q => absurd q (Nat.not_lt_zero _)⟩, ⟨fun v => absurd v (no 24 i (by simp)), fun q => absurd q (Nat.not_lt_zero _)⟩, fun q => absurd q (Nat.not_lt_zero _)⟩
    · rw [s]; exact ⟨⟨fun v => absurd v (no 3 i (by simp)), fun q => absurd q (Nat.not_lt_zero _)⟩, ⟨fun v => absurd v (no 19 i (by simp)), fun q => absurd q (Nat.not_lt_zero _)⟩, fun q => absurd q (Nat.not_lt_zero _)⟩
    · rw [s]; exact ⟨fun v => absurd v (no 6 i (by simp)), fun q => absurd q (Nat.not_lt_zero _)⟩
    · rw [s, z (by decide) (by decide) (by decide)]
      exact ⟨⟨fun v => absurd v (no 26 i (by simp)), fun q => absurd rfl q⟩, Nat.le_refl _, by decide⟩
  · refine ⟨fun k => ⟨by rw [v4 k 0 (by decide)]; decide, by rw [v4 k 3 (by decide)]; decide⟩, fun l => ?_, fun c => ?_, fun n k => ?_, ?_, fun l hl => ?_, fun c hc => ?_, fun n hn => ?_, fun c k => ?_, fun c => ?_, fun s' => ?_⟩
    · rw [z (by decide) (by decide) (by decide), z (by decide) (by decide) (by decide), z (by decide) (by decide) (by decide), z (by decide) (by decide) (by decide)]; decide
    · rw [z (by decide) (by decide) (by decide), z (by decide) (by decide) (by decide), z (by decide) (by decide) (by decide), z (by decide) (by decide) (by decide), z (by decide) (by decide) (by decide), z (by decide) (by decide) (by decide)]; decide
    · rw [z (by decide) (by decide) (by decide)]; decide
    · rw [s, s, s, s]; decide
    · rw [s] at hl; exact absurd hl (Nat.not_lt_zero _)
    · rw [s] at hc; exact absurd hc (Nat.not_lt_zero _)
    · rw [s] at hn; exact absurd hn (Nat.not_lt_zero _)
    · rw [z (by decide) (by decide) (by decide)]; exact Nat.zero_le _
    · rw [z (by decide) (by decide) (by decide)]; exact Nat.zero_le _
    · rw [z (by decide) (by decide) (by decide)]; exact Nat.zero_le _
  · intro n c hc
    unfold sgnd
    rw [z (by decide) (by decide) (by decide), z (by decide) (by decide) (by decide)]
    have : nI 0 &&& (nI 1 <<< (nI c &&& 31)) = nI 0 := Int32.zero_and
    rw [this]
    exact ⟨by decide, by simp⟩
  · refine ⟨fun i _ _ => ?_, ?_, ?_⟩
    · rw [z (by decide) (by decide) (by decide)]; exact Or.inl rfl
    · rw [z (by decide) (by decide) (by decide)]; exact Or.inl rfl
    · rw [z (by decide) (by decide) (by decide)]; exact Nat.zero_le _
  · refine ⟨fun _ _ _ => z (by decide) (by decide) (by decide), fun _ _ _ => ⟨z (by decide) (by decide) (by decide), z (by decide) (by decide) (by decide)⟩, fun _ _ _ => ⟨z (by decide) (by decide) (by decide), z (by decide) (by decide) (by decide), z (by decide) (by decide) (by decide)⟩, fun _ _ _ => z (by decide) (by decide) (by decide)⟩
  · refine ⟨fun s' hs => absurd (z (by decide) (by decide) (by decide)) hs, fun j hj => ?_, fun j j' hj => ?_, ?_, ⟨?_, fun c hc => ?_⟩, fun c hc => ?_⟩
    · rw [s] at hj; exact absurd hj (Nat.not_lt_zero _)
    · rw [s] at hj; exact absurd hj (Nat.not_lt_zero _)
    · rw [s]; exact z (by decide) (by decide) (by decide)
    · rw [z (by decide) (by decide) (by decide)]; exact Nat.zero_le _
    · rw [s] at hc; exact absurd hc (Nat.not_lt_zero _)
    · rw [s] at hc; exact absurd hc (Nat.not_lt_zero _)
  · refine ⟨fun p => ?_, fun c k hc => ?_, fun p hp => ?_⟩
    · rw [z (by decide) (by decide) (by decide), z (by decide) (by decide) (by decide)]; decide
    · rw [s] at hc; exact absurd hc (Nat.not_lt_zero _)
    · rw [s] at hp; exact absurd hp (Nat.not_lt_zero _)
  · intro n m hn
    rw [s] at hn; exact absurd hn (Nat.not_lt_zero _)
  · have e3 : iniP iAg iBg 10 2 c 3 = 0 := z (by decide) (by decide) (by decide)
    unfold YC
    rw [e3]
    exact ⟨fun _ => ⟨z (by decide) (by decide) (by decide), fun k => z (by decide) (by decide) (by decide)⟩, fun q => absurd q (by decide), fun q => absurd q (by decide), fun q => absurd q (by decide)⟩
/-- the heap of the start: the empty row alone -/
def hp0 (dE : Nat) : Hp := (fun b => if b = dE then 27 else 0, fun _ => 0, fun _ _ => 0, fun _ _ => none, fun _ _ => 0)
/-- no line yet: the empty row, and what lies beside it -/
theorem RR_0 {F : Nat → Prop} (ht : hT h dE = 27) (hl : hL h dE = 0) (hF : ∀ a, F a → hT h a ≠ 0 ∧ dE ≠ a) : RR dE (fun _ _ => dE) (iniP [(27, 0)] [] 0) (F, h) h := by
  have o : ∀ {t i : Nat}, V (iniP [(27, 0)] [] 0) t i → t = 27 ∧ i = 0 := fun v => by have := ipV.mp v; simpa using this
  refine ⟨fun t i t' i' v v' _ => ?_, fun t i v => ?_, fun t i j v w => ?_, fun t i j x v e => ?_, ipV.mpr (by decide), rfl, fun a ha => ⟨(hF a ha).1, fun _ _ _ => (hF a ha).2, sameAt.rf⟩⟩
  · obtain ⟨rfl, rfl⟩ := o v
    obtain ⟨rfl, rfl⟩ := o v'
    exact ⟨rfl, rfl⟩
  · obtain ⟨rfl, rfl⟩ := o v
    exact ⟨ht, by decide, hl⟩
  · obtain ⟨rfl, rfl⟩ := o v
    cases w
  · obtain ⟨rfl, rfl⟩ := o v
    cases e
/-- a new line -/
theorem new_line (r : RR dE ad (iniP [(27, 0)] [] 0) μ h) {q : Nat} (zq : hT h q = 0) {mc ms : Nat} (h1 : 17 ≤ mc) (h2 : 73 ≤ ms) {post : Hp → Prop} (hp : ∀ ad' h', ad' 7 0 = q → RR dE ad' (iniP iAg iBg 10) μ h' → post h') : wp_X5_init dE mc ms (sN h q 7 0) q post := by
  obtain ⟨ad1, r1, f1, o1⟩ := n_new (t := 7) (i := 0) (n := 0) r zq (by decide) (by decide) rfl (fun e => by cases e) (fun j _ => by simp) (fun e => by omega) (fun e => by cases e) (fun e => by cases e) (by decide)
  rw [← f1]
  rw [← f1] at r1
  exact p_init r1 h1 h2 (fun ad' h' a r' => hp ad' h' (a.trans f1) r')
end IN
