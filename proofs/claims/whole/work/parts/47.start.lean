/-! the start: a new line, a new Model -/
def iniP (A B : List (Nat × Nat)) (K : Nat) : St := fun t i j => if t = 11 then (if (i, j) ∈ A then 1 else 0) else if t = 12 then (if (i, j) ∈ B then 1 else 0) else if t = 4 ∧ j = 1 ∧ i < K then 255 else 0
theorem ip11 (A B : List (Nat × Nat)) (K t i : Nat) : iniP A B K 11 t i = if (t, i) ∈ A then 1 else 0 := rfl
theorem ip12 (A B : List (Nat × Nat)) (K t i : Nat) : iniP A B K 12 t i = if (t, i) ∈ B then 1 else 0 := rfl
theorem ipx {A B : List (Nat × Nat)} {K a b c : Nat} (h1 : a ≠ 11) (h2 : a ≠ 12) (h3 : ¬ (a = 4 ∧ c = 1 ∧ b < K)) : iniP A B K a b c = 0 := by
  unfold iniP
  rw [if_neg h1, if_neg h2, if_neg h3]
theorem ipV {A B : List (Nat × Nat)} {K t i : Nat} : V (iniP A B K) t i ↔ (t, i) ∈ A := by
  unfold V
  rw [ip11]
  by_cases h : (t, i) ∈ A
  · rw [if_pos h]; exact ⟨fun _ => h, fun _ => by decide⟩
  · rw [if_neg h]; exact ⟨fun z => absurd rfl z, fun z => absurd z h⟩
theorem ip_new {A B : List (Nat × Nat)} {K t i : Nat} : up (iniP A B K) 11 t i 1 = iniP ((t, i) :: A) B K := by
  funext a b c
  unfold up iniP
  by_cases h : a = 11
  · subst h
    by_cases e : b = t ∧ c = i
    · obtain ⟨rfl, rfl⟩ := e
      simp
    · have : ¬ ((b, c) = (t, i)) := fun z => e (by injection z with z1 z2; exact ⟨z1, z2⟩)
      simp only [List.mem_cons, this, false_or]
      rw [if_neg (fun z => e z.2)]
  · rw [if_neg (fun z => h z.1), if_neg h, if_neg h]
theorem ip_link {A B : List (Nat × Nat)} {K t i : Nat} : up (iniP A B K) 12 t i 1 = iniP A ((t, i) :: B) K := by
  funext a b c
  unfold up iniP
  by_cases h : a = 12
  · subst h
    by_cases e : b = t ∧ c = i
    · obtain ⟨rfl, rfl⟩ := e
      simp
    · have : ¬ ((b, c) = (t, i)) := fun z => e (by injection z with z1 z2; exact ⟨z1, z2⟩)
      simp only [List.mem_cons, this, false_or]
      rw [if_neg (fun z => e z.2)]
  · rw [if_neg (fun z => h z.1)]
    by_cases h1 : a = 11
    · rw [if_pos h1, if_pos h1]
    · rw [if_neg h1, if_neg h1, if_neg h, if_neg h]
theorem ip_kind {A B : List (Nat × Nat)} {K : Nat} : up (iniP A B K) 4 K 1 255 = iniP A B (K + 1) := by
  funext a b c
  unfold up iniP
  by_cases h : a = 4 ∧ b = K ∧ c = 1
  · obtain ⟨rfl, rfl, rfl⟩ := h
    rw [if_pos ⟨rfl, rfl, rfl⟩, if_neg (by decide), if_neg (by decide), if_pos ⟨rfl, rfl, by omega⟩]
  · rw [if_neg h]
    by_cases h1 : a = 11
    · rw [if_pos h1, if_pos h1]
    · rw [if_neg h1, if_neg h1]
      by_cases h2 : a = 12
      · rw [if_pos h2, if_pos h2]
      · rw [if_neg h2, if_neg h2]
        by_cases h3 : a = 4 ∧ c = 1 ∧ b < K
        · rw [if_pos h3, if_pos ⟨h3.1, h3.2.1, by omega⟩]
        · rw [if_neg h3, if_neg (fun z => h (by omega))]
theorem ip_zero {A B : List (Nat × Nat)} {K t i j : Nat} (h : iniP A B K t i j = 0) : up (iniP A B K) t i j 0 = iniP A B K := by
  have := up_same (σ := iniP A B K) (t := t) (i := i) (j := j)
  rw [h] at this
  exact this
def iAL : List (Nat × Nat) := [(25, 0), (1, 5), (1, 4), (1, 3), (1, 2), (1, 1), (23, 0), (7, 0), (27, 0)]
def iBL : List (Nat × Nat) := [(7, 6), (7, 5), (1, 5), (7, 4), (1, 4), (7, 3), (1, 3), (7, 2), (1, 2), (7, 1), (1, 1), (7, 0)]
def kA : Nat → List (Nat × Nat) → List (Nat × Nat)
  | 0, A => A
  | k + 1, A => (4, k) :: kA k A
def kB : Nat → List (Nat × Nat) → List (Nat × Nat)
  | 0, A => A
  | k + 1, A => (23, k) :: kB k A
theorem kA_mem {t i : Nat} {A : List (Nat × Nat)} (h : t ≠ 4) : ∀ k, (t, i) ∈ kA k A ↔ (t, i) ∈ A := by
  intro k
  induction k with
  | zero => exact Iff.rfl
  | succ k ih =>
    show (t, i) ∈ (4, k) :: kA k A ↔ _
    rw [List.mem_cons, ih]
    exact ⟨fun z => z.elim (fun e => by injection e with e1 e2; exact absurd e1 h) id, Or.inr⟩
theorem kA_4 {A : List (Nat × Nat)} (h : ∀ i, (4, i) ∉ A) : ∀ k i, (4, i) ∈ kA k A ↔ i < k := by
  intro k
  induction k with
  | zero => exact fun i => ⟨fun z => absurd z (h i), fun z => absurd z (Nat.not_lt_zero i)⟩
  | succ k ih =>
    intro i
    show (4, i) ∈ (4, k) :: kA k A ↔ _
    rw [List.mem_cons, ih]
    constructor
    · rintro (e | e)
      · injection e with e1 e2; omega
      · omega
    · intro z
      by_cases e : i = k
      · exact Or.inl (by rw [e])
      · exact Or.inr (by omega)
theorem kB_mem {t i : Nat} {A : List (Nat × Nat)} (h : t ≠ 23) : ∀ k, (t, i) ∈ kB k A ↔ (t, i) ∈ A := by
  intro k
  induction k with
  | zero => exact Iff.rfl
  | succ k ih =>
    show (t, i) ∈ (23, k) :: kB k A ↔ _
    rw [List.mem_cons, ih]
    exact ⟨fun z => z.elim (fun e => by injection e with e1 e2; exact absurd e1 h) id, Or.inr⟩
section IN
variable {dE : Nat} {ad : Nat → Nat → Nat} {ρ μ : St} {h : Hp}
theorem n_new {A B : List (Nat × Nat)} {K t i q n : Nat} (r : RR dE ad (iniP A B K) μ h) (z : hT h q = 0) (nv : (t, i) ∉ A) (t0 : tgL t ≠ 0) (hn : n = lnL (iniP A B K) t i) (hK : t = 4 → K ≤ i) (hB : ∀ j, t = 7 ∨ t = 8 ∨ t = 23 → (t, j) ∉ B) (hB1 : t = 1 ∨ t = 2 ∨ t = 3 → (t, i) ∉ B) (n8 : t = 8 → ∀ j, isM j = true → ms μ j = 0) (hm : isMA t = true → t ≠ 56 → ∀ n, n < lnM t → mv μ t n = 0) (t1 : t ≠ 11 ∧ t ≠ 12) :
    ∃ ad', RR dE ad' (iniP ((t, i) :: A) B K) μ (sN h q (tgL t) n) ∧ ad' t i = q ∧ ∀ a b, ¬ (a = t ∧ b = i) → ad' a b = ad a b := by
  refine ⟨au ad t i q, ?_, au_eq, fun a b ne => au_ne ne⟩
  rw [← ip_new]
  refine r.new z (fun v => nv (ipV.mp v)) t0 hn (fun j w => ipx t1.1 t1.2 (fun y => by have := hK y.1; omega)) (fun j y hy => ?_) n8 hm (fun e1 e2 => ipx (by decide) (by decide) (by simp))
  unfold cr at hy
  split at hy
  · rw [ip12, if_neg (hB j (by omega)), if_pos rfl] at hy; cases hy
  · rw [ip12, if_neg (hB j (by omega)), if_pos rfl] at hy; cases hy
  · rw [ip12, if_neg (hB j (by omega)), if_pos rfl] at hy; cases hy
  · rw [ip12, if_neg (hB1 (by omega)), if_pos (Or.inl rfl)] at hy; cases hy
  · rw [ipx (by decide) (by decide) (by simp)] at hy
    injection hy with hy
    rw [← hy]; rfl
  · rw [ipx (by decide) (by decide) (by simp)] at hy
    injection hy with hy
    rw [← hy]; rfl
  · by_cases j2 : j = 2
    · rw [if_pos j2, ip12, if_neg (hB1 (by omega)), if_pos rfl] at hy; cases hy
    · rw [if_neg j2] at hy
      by_cases j5 : j = 5
      · rw [if_pos j5, ipx (by decide) (by decide) (by simp)] at hy
        injection hy with hy
        rw [← hy]; rfl
      · rw [if_neg j5] at hy; cases hy
  · rw [ip12, if_neg (hB1 (by omega)), if_pos (Or.inl rfl)] at hy; cases hy
  · rw [ipx (by decide) (by decide) (by simp), if_neg (Nat.not_lt_zero _)] at hy; cases hy
  · cases hy
theorem n_link7 {A B : List (Nat × Nat)} {K j : Nat} {p : Nat × Nat} (r : RR dE ad (iniP A B K) μ h) (v7 : (7, 0) ∈ A) (vp : p ∈ A) (u : ∀ b, (7, b) ∈ A → b = 0) (hp : (j = 0 ∧ p = (23, 0)) ∨ (1 ≤ j ∧ j ≤ 5 ∧ p = (1, j)) ∨ (j = 6 ∧ p = (25, 0))) : RR dE ad (iniP A ((7, j) :: B) K) μ (sR h (ad 7 0) j (some (ad p.1 p.2))) := by
  rw [← ip_link]
  refine r.link (ipV.mpr v7) (ipV.mpr vp) (fun y hy => ?_) (fun a b k va ne => cr_12 (fun e => ⟨fun _ kj => ?_, fun z => by omega, fun z => by omega⟩))
  · have hy : (if up (iniP A B K) 12 7 j 1 12 7 j = 0 then none else if j = 0 then some (some (23, 0)) else if 1 ≤ j ∧ j ≤ 5 then some (some (1, j)) else if j = 6 then some (some (25, 0)) else none) = some y := hy
    rw [up_eq, if_neg (by decide)] at hy
    rcases hp with ⟨rfl, rfl⟩ | ⟨h1, h5, rfl⟩ | ⟨rfl, rfl⟩
    · rw [if_pos rfl] at hy; injection hy with hy; exact hy.symm
    · rw [if_neg (by omega), if_pos ⟨h1, h5⟩] at hy; injection hy with hy; exact hy.symm
    · rw [if_neg (by decide), if_neg (by decide), if_pos rfl] at hy; injection hy with hy; exact hy.symm
  · subst e
    exact ne ⟨rfl, u b (ipV.mp va), kj⟩
theorem n_link8 {A B : List (Nat × Nat)} {K j : Nat} (r : RR dE ad (iniP A B K) μ h) (v8 : (8, 0) ∈ A) (vp : (30 + j, 0) ∈ A) (u : ∀ b, (8, b) ∈ A → b = 0) : RR dE ad (iniP A ((8, j) :: B) K) μ (sR h (ad 8 0) j (some (ad (30 + j) 0))) := by
  rw [← ip_link]
  refine r.link (p := (30 + j, 0)) (ipV.mpr v8) (ipV.mpr vp) (fun y hy => ?_) (fun a b k va ne => cr_12 (fun e => ⟨fun _ kj => ?_, fun z => by omega, fun z => by omega⟩))
  · have hy : (if up (iniP A B K) 12 8 j 1 12 8 j = 0 then none else some (some (30 + j, 0))) = some y := hy
    rw [up_eq, if_neg (by decide)] at hy
    injection hy with hy; exact hy.symm
  · subst e
    exact ne ⟨rfl, u b (ipV.mp va), kj⟩
theorem n_link23 {A B : List (Nat × Nat)} {K j : Nat} (r : RR dE ad (iniP A B K) μ h) (v8 : (23, 0) ∈ A) (vp : (4, j) ∈ A) (u : ∀ b, (23, b) ∈ A → b = 0) : RR dE ad (iniP A ((23, j) :: B) K) μ (sR h (ad 23 0) j (some (ad 4 j))) := by
  rw [← ip_link]
  refine r.link (p := (4, j)) (ipV.mpr v8) (ipV.mpr vp) (fun y hy => ?_) (fun a b k va ne => cr_12 (fun e => ⟨fun _ kj => ?_, fun z => by omega, fun z => by omega⟩))
  · have hy : (if up (iniP A B K) 12 23 j 1 12 23 j = 0 then none else some (some (4, j))) = some y := hy
    rw [up_eq, if_neg (by decide)] at hy
    injection hy with hy; exact hy.symm
  · subst e
    exact ne ⟨rfl, u b (ipV.mp va), kj⟩
theorem n_link1 {A B : List (Nat × Nat)} {K i : Nat} (r : RR dE ad (iniP A B K) μ h) (v1 : (1, i) ∈ A) (vp : (27, 0) ∈ A) : RR dE ad (iniP A ((1, i) :: B) K) μ (sR h (ad 1 i) 1 (some (ad 27 0))) := by
  rw [← ip_link]
  refine r.link (p := (27, 0)) (ipV.mpr v1) (ipV.mpr vp) (fun y hy => ?_) (fun a b k va ne => cr_12 (fun e => ⟨fun z => by omega, fun _ => ?_, fun z => by omega⟩))
  · have hy : (if up (iniP A B K) 12 1 i 1 12 1 i = 0 ∨ 1 ≠ 1 then none else some (some (if up (iniP A B K) 12 1 i 1 9 i 0 = 0 then (27, 0) else (26, i)))) = some y := hy
    rw [up_eq, if_neg (by simp), up_ne (fun z => by cases z.1), ipx (by decide) (by decide) (by simp), if_pos rfl] at hy
    injection hy with hy; exact hy.symm
  · by_cases bi : b = i
    · exact Or.inr (fun k1 => ne ⟨e, bi, k1⟩)
    · exact Or.inl bi
theorem p_list {A B : List (Nat × Nat)} {i : Nat} (h1 : 1 ≤ i) (h5 : i ≤ 5) (r : RR dE ad (iniP A B 0) μ h) (v7 : (7, 0) ∈ A) (v27 : (27, 0) ∈ A) (u : ∀ b, (7, b) ∈ A → b = 0) (n1 : (1, i) ∉ A) (nb : (1, i) ∉ B) {post : Hp → Prop} (hp : ∀ ad' h', ad' 7 0 = ad 7 0 → RR dE ad' (iniP ((1, i) :: A) ((7, i) :: (1, i) :: B) 0) μ h' → post h') : ∀ q, hT h q = 0 → ∀ h9, h9 = sN h q 1 0 → wp_Jx4a65c_init_da8c8 dE h9 q (fun h11 => (hT h11 (ad 7 0) = 7 ∧ (∀ h13, h13 = sR h11 (ad 7 0) i (some q) → post h13))) := by
  intro q zq h9 e9
  obtain ⟨ad1, r1, e1, o1⟩ := n_new (t := 1) (i := i) (n := 0) r zq n1 (by decide) rfl (fun e => by cases e) (fun j e => by omega) (fun _ => nb) (fun e => by cases e) (fun e => by cases e) (by decide)
  have e9 : h9 = sN h q (tgL 1) 0 := e9
  rw [← e9] at r1
  have v1 : (1, i) ∈ (1, i) :: A := List.mem_cons_self
  have d27 : ad1 27 0 = dE := r1.eD
  have a7 : ad1 7 0 = ad 7 0 := o1 _ _ (fun z => by cases z.1)
  unfold wp_Jx4a65c_init_da8c8 wp_Jxc12de_init_da8c8 wp_Jxa1e45_init_da8c8
  have w1 : V (iniP ((1, i) :: A) B 0) 1 i := ipV.mpr v1
  refine ⟨by rw [← e1]; exact r1.tag w1, fun h3 e3 => ?_⟩
  have r2 : RR dE ad1 (iniP ((1, i) :: A) B 0) μ h3 := by rw [e3, ← e1]; exact r1.rawI w1 rfl (by decide) rfl
  refine ⟨by rw [← e1]; exact r2.tag w1, fun h4 e4 => ?_⟩
  have r3 : RR dE ad1 (iniP ((1, i) :: A) ((1, i) :: B) 0) μ h4 := by
    have this := n_link1 r2 v1 (List.mem_cons_of_mem _ v27)
    rw [d27, e1] at this
    rw [e4]; exact this
  refine ⟨by rw [← a7]; exact r3.tag (ipV.mpr (List.mem_cons_of_mem _ v7)), fun h13 e13 => hp ad1 h13 a7 ?_⟩
  rw [e13, ← a7, ← e1]
  exact n_link7 (p := (1, i)) r3 (List.mem_cons_of_mem _ v7) v1 (fun b hb => (List.mem_cons.mp hb).elim (fun e => by cases e) (u b)) (Or.inr (Or.inl ⟨h1, h5, rfl⟩))
theorem p_init (r : RR dE ad (iniP [(7, 0), (27, 0)] [] 0) μ h) {mc ms : Nat} (h1 : 17 ≤ mc) (h2 : 73 ≤ ms) {post : Hp → Prop} (hp : ∀ ad' h', ad' 7 0 = ad 7 0 → RR dE ad' (iniP (kA 10 iAL) (kB 10 iBL) 10) μ h' → post h') : wp_X5_init dE mc ms h (ad 7 0) post := by
  unfold wp_X5_init
  refine ⟨by omega, by omega, fun q1 z1 h3 e3 => ?_⟩
  obtain ⟨ad1, r1, e1, o1⟩ := n_new (t := 23) (i := 0) (n := 10) r z1 (by decide) (by decide) rfl (fun e => by cases e) (fun j _ => by simp) (fun e => by omega) (fun e => by cases e) (fun e => by cases e) (by decide)
  have e3 : h3 = sN h q1 (tgL 23) 10 := e3
  rw [← e3] at r1
  have a7 : ad1 7 0 = ad 7 0 := o1 _ _ (fun z => by cases z.1)
  rw [← a7]
  refine ⟨r1.tag (ipV.mpr (by decide)), fun h6 e6 => ?_⟩
  have r2 : RR dE ad1 (iniP [(23, 0), (7, 0), (27, 0)] [(7, 0)] 0) μ h6 := by rw [e6, ← e1]; exact n_link7 (p := (23, 0)) r1 (by decide) (by decide) (fun b hb => by simpa using hb) (Or.inl ⟨rfl, rfl⟩)
  refine ⟨by omega, by omega, p_list (i := 1) (by decide) (by decide) r2 (by decide) (by decide) (fun b hb => by simpa using hb) (by decide) (by decide) (fun ad2 k2 b2 r3 => ?_)⟩
  rw [← b2]
  refine ⟨by omega, by omega, p_list (i := 2) (by decide) (by decide) r3 (by decide) (by decide) (fun b hb => by simpa using hb) (by decide) (by decide) (fun ad3 k3 b3 r4 => ?_)⟩
  rw [← b3]
  refine ⟨by omega, by omega, p_list (i := 3) (by decide) (by decide) r4 (by decide) (by decide) (fun b hb => by simpa using hb) (by decide) (by decide) (fun ad4 k4 b4 r5 => ?_)⟩
  rw [← b4]
  refine ⟨by omega, by omega, p_list (i := 4) (by decide) (by decide) r5 (by decide) (by decide) (fun b hb => by simpa using hb) (by decide) (by decide) (fun ad5 k5 b5 r6 => ?_)⟩
  rw [← b5]
  refine ⟨by omega, by omega, p_list (i := 5) (by decide) (by decide) r6 (by decide) (by decide) (fun b hb => by simpa using hb) (by decide) (by decide) (fun ad6 k6 b6 r7 => ?_)⟩
  rw [← b6]
  refine ⟨by omega, by omega, fun q42 z42 h44 e44 h48 e48 => ?_⟩
  obtain ⟨ad7, r8, e7, o7⟩ := n_new (t := 25) (i := 0) (n := 8) r7 z42 (by decide) (by decide) rfl (fun e => by cases e) (fun j e => by omega) (fun e => by omega) (fun e => by cases e) (fun e => by cases e) (by decide)
  have e44 : h44 = sN k6 q42 (tgL 25) 8 := e44
  rw [← e44] at r8
  have b7 : ad7 7 0 = ad6 7 0 := o7 _ _ (fun z => by cases z.1)
  rw [← b7] at e48 ⊢
  have r9 : RR dE ad7 (iniP iAL iBL 0) μ h48 := by rw [e48, ← e7]; exact n_link7 (p := (25, 0)) r8 (by decide) (by decide) (fun b hb => by simpa [iAL] using hb) (Or.inr (Or.inr ⟨rfl, rfl⟩))
  intro J hJ
  have u7 : ∀ b, (7, b) ∈ iAL → b = 0 := fun b hb => by simpa [iAL] using hb
  have u23 : ∀ b, (23, b) ∈ iAL → b = 0 := fun b hb => by simpa [iAL] using hb
  have n4 : ∀ b, (4, b) ∉ iAL := fun b hb => by simp [iAL] at hb
  refine lpA (J := fun (x : Hp × Nat × Nat) v => J v x.1 x.2.1 x.2.2) (x := (h48, 7, 33)) (fun x v hb => hJ v x.1 x.2.1 x.2.2 hb) 10 (fun k x => ∃ ad', ad' 7 0 = ad7 7 0 ∧ RR dE ad' (iniP (kA k iAL) (kB k iBL) k) μ x.1 ∧ x.2.1 = 7 + k ∧ x.2.2 = 33 + 4 * k) ⟨ad7, rfl, r9, rfl, rfl⟩ (fun k x hk e hs => ?_)
  obtain ⟨hx, c2, s2⟩ := x
  obtain ⟨ad', a7', rk, ec, es⟩ := e
  have ec : c2 = 7 + k := ec
  have es : s2 = 33 + 4 * k := es
  have rk : RR dE ad' (iniP (kA k iAL) (kB k iBL) k) μ hx := rk
  subst ec es
  dsimp only
  rw [← a7']
  have m7 : (7, 0) ∈ kA k iAL := (kA_mem (by decide) k).mpr (by decide)
  have m23 : (23, 0) ∈ kA k iAL := (kA_mem (by decide) k).mpr (by decide)
  by_cases hk2 : k < 10
  · refine ⟨fun q => absurd q (nI_ge (b := 10) hk2 (by omega)), fun _ => ⟨rk.tag (ipV.mpr m7), ad' 23 0, ?_, by omega, by omega, fun q53 z53 h54 e54 => ?_⟩⟩
    · refine rk.ref (x := some (23, 0)) (ipV.mpr m7) ?_
      show (if iniP (kA k iAL) (kB k iBL) k 12 7 0 = 0 then none else if 0 = 0 then some (some (23, 0)) else _) = _
      rw [ip12, if_pos ((kB_mem (by decide) k).mpr (by decide)), if_neg (by decide), if_pos rfl]
    · obtain ⟨ad2, s1, f1, o2⟩ := n_new (t := 4) (i := k) (n := 0) rk z53 (fun z => by have := (kA_4 n4 k k).mp z; omega) (by decide) rfl (fun _ => Nat.le_refl _) (fun j e => by omega) (fun e => by omega) (fun e => by cases e) (fun e => by cases e) (by decide)
      have e54 : h54 = sN hx q53 (tgL 4) 0 := e54
      rw [← e54] at s1
      have g7 : ad2 7 0 = ad' 7 0 := o2 _ _ (fun z => by cases z.1)
      have g23 : ad2 23 0 = ad' 23 0 := o2 _ _ (fun z => by cases z.1)
      have vk : V (iniP ((4, k) :: kA k iAL) (kB k iBL) k) 4 k := ipV.mpr List.mem_cons_self
      have vk' : V (iniP ((4, k) :: kA k iAL) (kB k iBL) (k + 1)) 4 k := ipV.mpr List.mem_cons_self
      unfold wp_X2_init
      refine ⟨by rw [← f1]; exact s1.tag vk, fun h2 e2 h4 e4 h6 e6 h8 e8 => ?_⟩
      have s2 := s1.setI (v := 0) vk (j := 0) rfl (by decide)
      rw [ip_zero (ipx (by decide) (by decide) (by simp)), f1] at s2
      have e2 : h2 = sI h54 q53 0 (nI 0) := e2
      rw [← e2] at s2
      have s3 := s2.setI (v := 255) vk (j := 1) rfl (by decide)
      rw [ip_kind, f1] at s3
      have e4 : h4 = sI h2 q53 1 (nI 255) := e4
      rw [← e4] at s3
      have s4 := s3.setI (v := 0) vk' (j := 2) rfl (by decide)
      rw [ip_zero (ipx (by decide) (by decide) (by simp)), f1] at s4
      have e6 : h6 = sI h4 q53 2 (nI 0) := e6
      rw [← e6] at s4
      have s5 := s4.setI (v := 0) vk' (j := 3) rfl (by decide)
      rw [ip_zero (ipx (by decide) (by decide) (by simp)), f1] at s5
      have e8 : h8 = sI h6 q53 3 (nI 0) := e8
      rw [← e8] at s5
      have m23' : (23, 0) ∈ (4, k) :: kA k iAL := List.mem_cons_of_mem _ m23
      have l23 : hL h8 (ad2 23 0) = 10 := s5.len (ipV.mpr m23')
      refine ⟨by rw [← g23]; exact s5.tag (ipV.mpr m23'), k, rfl, by omega, by rw [← g23]; omega, by rw [← f1]; exact s5.tag vk', fun h60 e60 => ?_⟩
      have s6 : RR dE ad2 (iniP (kA (k + 1) iAL) (kB (k + 1) iBL) (k + 1)) μ h60 := by
        rw [e60, ← g23, ← f1]
        exact n_link23 s5 m23' List.mem_cons_self (fun b hb => (List.mem_cons.mp hb).elim (fun e => by cases e) (fun z => u23 b ((kA_mem (by decide) k).mp z)))
      have := hs (h60, 7 + k + 1 + 0, 33 + 4 * k + 4 + 0) hk2 ⟨ad2, g7.trans a7', s6, by show 7 + k + 1 + 0 = 7 + (k + 1); omega, by show 33 + 4 * k + 4 + 0 = 33 + 4 * (k + 1); omega⟩
      rw [← nI_1 k] at this
      exact this
  · have : k = 10 := by omega
    subst this
    exact ⟨fun _ => hp ad' hx (a7'.trans (b7.trans (b6.trans (b5.trans (b4.trans (b3.trans (b2.trans a7))))))) rk, fun q => absurd (nI_le (Nat.le_refl 10) (by omega)) q⟩
/-! the Model -/
theorem q_arr {A B : List (Nat × Nat)} {K K' T j n tg : Nat} (hMA : isMA T = true) (ej : T = 30 + j) (etg : tgL T = tg) (eln : lnM T = n) (r : RR dE ad (iniP A B K) (iniP [] [] K') h) (v8 : (8, 0) ∈ A) (u8 : ∀ b, (8, b) ∈ A → b = 0) (nT : (T, 0) ∉ A) (h32 : T ≠ 32) {q : Nat} (zq : hT h q = 0) : ∃ ad', ad' 7 0 = ad 7 0 ∧ ad' 8 0 = ad 8 0 ∧ hT (sN h q tg n) (ad 8 0) = 8 ∧ RR dE ad' (iniP ((T, 0) :: A) ((8, j) :: B) K) (iniP [] [] K') (sR (sN h q tg n) (ad 8 0) j (some q)) ∧ (8, 0) ∈ (T, 0) :: A ∧ (∀ b, (8, b) ∈ (T, 0) :: A → b = 0) := by
  have nm : T ≠ 1 ∧ T ≠ 2 ∧ T ≠ 3 ∧ T ≠ 4 ∧ T ≠ 7 ∧ T ≠ 8 ∧ T ≠ 11 ∧ T ≠ 12 ∧ T ≠ 23 := by
    rcases ma_cases hMA with rfl | rfl | rfl | rfl | rfl | rfl | rfl | rfl | rfl | rfl | rfl | rfl | rfl | rfl | rfl | rfl | rfl | rfl | rfl | rfl | rfl <;> decide
  have hl : n = lnL (iniP A B K) T 0 := by
    rw [← eln]
    rcases ma_cases hMA with rfl | rfl | rfl | rfl | rfl | rfl | rfl | rfl | rfl | rfl | rfl | rfl | rfl | rfl | rfl | rfl | rfl | rfl | rfl | rfl | rfl <;> rfl
  have ht : tgL T ≠ 0 := by
    rcases ma_cases hMA with rfl | rfl | rfl | rfl | rfl | rfl | rfl | rfl | rfl | rfl | rfl | rfl | rfl | rfl | rfl | rfl | rfl | rfl | rfl | rfl | rfl <;> decide
  obtain ⟨ad1, r1, e1, o1⟩ := n_new (t := T) (i := 0) (n := n) r zq nT ht hl (fun e => absurd e nm.2.2.2.1) (fun j e => by omega) (fun e => by omega) (fun e => by omega) (fun _ n56 x _ => by
    unfold mv
    rcases ma_cases hMA with rfl | rfl | rfl | rfl | rfl | rfl | rfl | rfl | rfl | rfl | rfl | rfl | rfl | rfl | rfl | rfl | rfl | rfl | rfl | rfl | rfl
    all_goals first | exact absurd rfl h32 | exact absurd rfl n56 | exact ipx (by simp [sl]) (by simp [sl]) (by simp [sl])) ⟨nm.2.2.2.2.2.2.1, nm.2.2.2.2.2.2.2.1⟩
  rw [etg] at r1
  have a7 : ad1 7 0 = ad 7 0 := o1 _ _ (fun z => nm.2.2.2.2.1 z.1.symm)
  have a8 : ad1 8 0 = ad 8 0 := o1 _ _ (fun z => nm.2.2.2.2.2.1 z.1.symm)
  have v8' : (8, 0) ∈ (T, 0) :: A := List.mem_cons_of_mem _ v8
  have u8' : ∀ b, (8, b) ∈ (T, 0) :: A → b = 0 := fun b hb => (List.mem_cons.mp hb).elim (fun e => by injection e with e1 e2) (u8 b)
  refine ⟨ad1, a7, a8, by rw [← a8]; exact r1.tag (ipV.mpr v8'), ?_, v8', u8'⟩
  subst ej
  have this := n_link8 r1 v8' List.mem_cons_self u8'
  rw [a8, e1] at this
  exact this
theorem q_255 {A B : List (Nat × Nat)} {K k : Nat} (r : RR dE ad (iniP A B K) (iniP [] [] k) h) (v32 : (32, 0) ∈ A) : RR dE ad (iniP A B K) (iniP [] [] (k + 1)) (sI h (ad 32 0) k (nI 255)) := by
  rw [← ip_kind]
  refine r.setA (ipV.mpr v32) rfl rfl (fun t' k' m lt e => ?_) (fun k' m => sm_ne m (by decide))
  rcases ma_cases m with rfl | rfl | rfl | rfl | rfl | rfl | rfl | rfl | rfl | rfl | rfl | rfl | rfl | rfl | rfl | rfl | rfl | rfl | rfl | rfl | rfl
  all_goals (simp only [sl, Prod.mk.injEq] at e; omega)
theorem q_init (r : RR dE ad (iniP ((8, 0) :: kA 10 iAL) (kB 10 iBL) 10) (iniP [] [] 0) h) {post : Hp → Prop} (hp : ∀ ad' h', ad' 7 0 = ad 7 0 → ad' 8 0 = ad 8 0 → RR dE ad' (iniP ((56, 0) :: (55, 0) :: (54, 0) :: (50, 0) :: (49, 0) :: (48, 0) :: (47, 0) :: (46, 0) :: (45, 0) :: (44, 0) :: (43, 0) :: (42, 0) :: (41, 0) :: (39, 0) :: (38, 0) :: (37, 0) :: (36, 0) :: (34, 0) :: (33, 0) :: (32, 0) :: (31, 0) :: (8, 0) :: kA 10 iAL) ((8, 26) :: (8, 25) :: (8, 24) :: (8, 20) :: (8, 19) :: (8, 18) :: (8, 17) :: (8, 16) :: (8, 15) :: (8, 14) :: (8, 13) :: (8, 12) :: (8, 11) :: (8, 9) :: (8, 8) :: (8, 7) :: (8, 6) :: (8, 4) :: (8, 3) :: (8, 2) :: (8, 1) :: kB 10 iBL) 10) (iniP [] [] 10) h' → post h') : wp_X6_init h (ad 8 0) post := by
  have v0 : (8, 0) ∈ (8, 0) :: kA 10 iAL := List.mem_cons_self
  have u0 : ∀ b, (8, b) ∈ (8, 0) :: kA 10 iAL → b = 0 := fun b hb => (List.mem_cons.mp hb).elim (fun e => by injection e) (fun z => absurd ((kA_mem (by decide) 10).mp z) (by simp [iAL]))
  unfold wp_X6_init
  intro q0 z0 h0 e0
  obtain ⟨ad1, x7, x8, tg, rr, v1, u1⟩ := q_arr (T := 31) (j := 1) (n := 10) (tg := 20) rfl rfl rfl rfl r v0 u0 (by decide) (by decide) z0
  have y7 := x7
  have y8 := x8
  refine ⟨by rw [e0]; exact tg, fun g1 t1 => ?_⟩
  have r1 : RR dE ad1 (iniP ((31, 0) :: (8, 0) :: kA 10 iAL) ((8, 1) :: kB 10 iBL) 10) (iniP [] [] 0) g1 := by rw [t1, e0]; exact rr
  intro q1 z1 h1 e1
  obtain ⟨ad2, rr, f1, o1⟩ := n_new (t := 32) (i := 0) (n := 10) r1 z1 (by decide) (by decide) rfl (fun e => by cases e) (fun j e => by omega) (fun e => by omega) (fun e => by cases e) (fun _ _ x _ => ipx (by simp [sl]) (by simp [sl]) (by simp [sl])) (by decide)
  have e1 : h1 = sN g1 q1 (tgL 32) 10 := e1
  rw [← e1] at rr
  have x7 : ad2 7 0 = ad1 7 0 := o1 _ _ (fun z => by cases z.1)
  have x8 : ad2 8 0 = ad1 8 0 := o1 _ _ (fun z => by cases z.1)
  have v2 : (8, 0) ∈ (32, 0) :: (31, 0) :: (8, 0) :: kA 10 iAL := List.mem_cons_of_mem _ v1
  have u2 : ∀ b, (8, b) ∈ (32, 0) :: (31, 0) :: (8, 0) :: kA 10 iAL → b = 0 := fun b hb => (List.mem_cons.mp hb).elim (fun e => by cases e) (u1 b)
  have w32 : (32, 0) ∈ (32, 0) :: (31, 0) :: (8, 0) :: kA 10 iAL := List.mem_cons_self
  have y7 := x7.trans y7
  have y8 := x8.trans y8
  have d0 := rr
  have l0 : hL h1 (ad2 32 0) = 10 := d0.len (ipV.mpr w32)
  rw [f1] at l0
  refine ⟨by rw [l0]; decide, fun p0 c0 => ?_⟩
  have d1 : RR dE ad2 (iniP ((32, 0) :: (31, 0) :: (8, 0) :: kA 10 iAL) ((8, 1) :: kB 10 iBL) 10) (iniP [] [] 1) p0 := by
    rw [c0, ← f1]
    exact q_255 d0 w32
  have l1 : hL p0 (ad2 32 0) = 10 := d1.len (ipV.mpr w32)
  rw [f1] at l1
  refine ⟨by rw [l1]; decide, fun p1 c1 => ?_⟩
  have d2 : RR dE ad2 (iniP ((32, 0) :: (31, 0) :: (8, 0) :: kA 10 iAL) ((8, 1) :: kB 10 iBL) 10) (iniP [] [] 2) p1 := by
    rw [c1, ← f1]
    exact q_255 d1 w32
  have l2 : hL p1 (ad2 32 0) = 10 := d2.len (ipV.mpr w32)
  rw [f1] at l2
  refine ⟨by rw [l2]; decide, fun p2 c2 => ?_⟩
  have d3 : RR dE ad2 (iniP ((32, 0) :: (31, 0) :: (8, 0) :: kA 10 iAL) ((8, 1) :: kB 10 iBL) 10) (iniP [] [] 3) p2 := by
    rw [c2, ← f1]
    exact q_255 d2 w32
  have l3 : hL p2 (ad2 32 0) = 10 := d3.len (ipV.mpr w32)
  rw [f1] at l3
  refine ⟨by rw [l3]; decide, fun p3 c3 => ?_⟩
  have d4 : RR dE ad2 (iniP ((32, 0) :: (31, 0) :: (8, 0) :: kA 10 iAL) ((8, 1) :: kB 10 iBL) 10) (iniP [] [] 4) p3 := by
    rw [c3, ← f1]
    exact q_255 d3 w32
  have l4 : hL p3 (ad2 32 0) = 10 := d4.len (ipV.mpr w32)
  rw [f1] at l4
  refine ⟨by rw [l4]; decide, fun p4 c4 => ?_⟩
  have d5 : RR dE ad2 (iniP ((32, 0) :: (31, 0) :: (8, 0) :: kA 10 iAL) ((8, 1) :: kB 10 iBL) 10) (iniP [] [] 5) p4 := by
    rw [c4, ← f1]
    exact q_255 d4 w32
  have l5 : hL p4 (ad2 32 0) = 10 := d5.len (ipV.mpr w32)
  rw [f1] at l5
  refine ⟨by rw [l5]; decide, fun p5 c5 => ?_⟩
  have d6 : RR dE ad2 (iniP ((32, 0) :: (31, 0) :: (8, 0) :: kA 10 iAL) ((8, 1) :: kB 10 iBL) 10) (iniP [] [] 6) p5 := by
    rw [c5, ← f1]
    exact q_255 d5 w32
  have l6 : hL p5 (ad2 32 0) = 10 := d6.len (ipV.mpr w32)
  rw [f1] at l6
  refine ⟨by rw [l6]; decide, fun p6 c6 => ?_⟩
  have d7 : RR dE ad2 (iniP ((32, 0) :: (31, 0) :: (8, 0) :: kA 10 iAL) ((8, 1) :: kB 10 iBL) 10) (iniP [] [] 7) p6 := by
    rw [c6, ← f1]
    exact q_255 d6 w32
  have l7 : hL p6 (ad2 32 0) = 10 := d7.len (ipV.mpr w32)
  rw [f1] at l7
  refine ⟨by rw [l7]; decide, fun p7 c7 => ?_⟩
  have d8 : RR dE ad2 (iniP ((32, 0) :: (31, 0) :: (8, 0) :: kA 10 iAL) ((8, 1) :: kB 10 iBL) 10) (iniP [] [] 8) p7 := by
    rw [c7, ← f1]
    exact q_255 d7 w32
  have l8 : hL p7 (ad2 32 0) = 10 := d8.len (ipV.mpr w32)
  rw [f1] at l8
  refine ⟨by rw [l8]; decide, fun p8 c8 => ?_⟩
  have d9 : RR dE ad2 (iniP ((32, 0) :: (31, 0) :: (8, 0) :: kA 10 iAL) ((8, 1) :: kB 10 iBL) 10) (iniP [] [] 9) p8 := by
    rw [c8, ← f1]
    exact q_255 d8 w32
  have l9 : hL p8 (ad2 32 0) = 10 := d9.len (ipV.mpr w32)
  rw [f1] at l9
  refine ⟨by rw [l9]; decide, fun p9 c9 => ?_⟩
  have d10 : RR dE ad2 (iniP ((32, 0) :: (31, 0) :: (8, 0) :: kA 10 iAL) ((8, 1) :: kB 10 iBL) 10) (iniP [] [] 10) p9 := by
    rw [c9, ← f1]
    exact q_255 d9 w32
  intro g2 t2
  have r2 : RR dE ad2 (iniP ((32, 0) :: (31, 0) :: (8, 0) :: kA 10 iAL) ((8, 2) :: (8, 1) :: kB 10 iBL) 10) (iniP [] [] 10) g2 := by
    rw [t2, ← y8, ← f1]
    exact n_link8 (j := 2) d10 v2 w32 u2
  intro q2 z2 h2 e2
  obtain ⟨ad3, x7, x8, tg, rr, v3, u3⟩ := q_arr (T := 33) (j := 3) (n := 10) (tg := 20) rfl rfl rfl rfl r2 v2 u2 (by decide) (by decide) z2
  intro g3 t3
  have r3 : RR dE ad3 (iniP ((33, 0) :: (32, 0) :: (31, 0) :: (8, 0) :: kA 10 iAL) ((8, 3) :: (8, 2) :: (8, 1) :: kB 10 iBL) 10) (iniP [] [] 10) g3 := by rw [t3, e2, ← y8]; exact rr
  have y7 := x7.trans y7
  have y8 := x8.trans y8
  intro q3 z3 h3 e3
  obtain ⟨ad4, x7, x8, tg, rr, v4, u4⟩ := q_arr (T := 34) (j := 4) (n := 10) (tg := 21) rfl rfl rfl rfl r3 v3 u3 (by decide) (by decide) z3
  intro g4 t4
  have r4 : RR dE ad4 (iniP ((34, 0) :: (33, 0) :: (32, 0) :: (31, 0) :: (8, 0) :: kA 10 iAL) ((8, 4) :: (8, 3) :: (8, 2) :: (8, 1) :: kB 10 iBL) 10) (iniP [] [] 10) g4 := by rw [t4, e3, ← y8]; exact rr
  have y7 := x7.trans y7
  have y8 := x8.trans y8
  intro q4 z4 h4 e4
  obtain ⟨ad5, x7, x8, tg, rr, v5, u5⟩ := q_arr (T := 36) (j := 6) (n := 40) (tg := 20) rfl rfl rfl rfl r4 v4 u4 (by decide) (by decide) z4
  intro g5 t5
  have r5 : RR dE ad5 (iniP ((36, 0) :: (34, 0) :: (33, 0) :: (32, 0) :: (31, 0) :: (8, 0) :: kA 10 iAL) ((8, 6) :: (8, 4) :: (8, 3) :: (8, 2) :: (8, 1) :: kB 10 iBL) 10) (iniP [] [] 10) g5 := by rw [t5, e4, ← y8]; exact rr
  have y7 := x7.trans y7
  have y8 := x8.trans y8
  intro q5 z5 h5 e5
  obtain ⟨ad6, x7, x8, tg, rr, v6, u6⟩ := q_arr (T := 37) (j := 7) (n := 40) (tg := 20) rfl rfl rfl rfl r5 v5 u5 (by decide) (by decide) z5
  intro g6 t6
  have r6 : RR dE ad6 (iniP ((37, 0) :: (36, 0) :: (34, 0) :: (33, 0) :: (32, 0) :: (31, 0) :: (8, 0) :: kA 10 iAL) ((8, 7) :: (8, 6) :: (8, 4) :: (8, 3) :: (8, 2) :: (8, 1) :: kB 10 iBL) 10) (iniP [] [] 10) g6 := by rw [t6, e5, ← y8]; exact rr
  have y7 := x7.trans y7
  have y8 := x8.trans y8
  intro q6 z6 h6 e6
  obtain ⟨ad7, x7, x8, tg, rr, v7, u7⟩ := q_arr (T := 38) (j := 8) (n := 40) (tg := 20) rfl rfl rfl rfl r6 v6 u6 (by decide) (by decide) z6
  intro g7 t7
  have r7 : RR dE ad7 (iniP ((38, 0) :: (37, 0) :: (36, 0) :: (34, 0) :: (33, 0) :: (32, 0) :: (31, 0) :: (8, 0) :: kA 10 iAL) ((8, 8) :: (8, 7) :: (8, 6) :: (8, 4) :: (8, 3) :: (8, 2) :: (8, 1) :: kB 10 iBL) 10) (iniP [] [] 10) g7 := by rw [t7, e6, ← y8]; exact rr
  have y7 := x7.trans y7
  have y8 := x8.trans y8
  intro q7 z7 h7 e7
  obtain ⟨ad8, x7, x8, tg, rr, v8, u8⟩ := q_arr (T := 39) (j := 9) (n := 40) (tg := 21) rfl rfl rfl rfl r7 v7 u7 (by decide) (by decide) z7
  intro g8 t8
  have r8 : RR dE ad8 (iniP ((39, 0) :: (38, 0) :: (37, 0) :: (36, 0) :: (34, 0) :: (33, 0) :: (32, 0) :: (31, 0) :: (8, 0) :: kA 10 iAL) ((8, 9) :: (8, 8) :: (8, 7) :: (8, 6) :: (8, 4) :: (8, 3) :: (8, 2) :: (8, 1) :: kB 10 iBL) 10) (iniP [] [] 10) g8 := by rw [t8, e7, ← y8]; exact rr
  have y7 := x7.trans y7
  have y8 := x8.trans y8
  intro q8 z8 h8 e8
  obtain ⟨ad9, x7, x8, tg, rr, v9, u9⟩ := q_arr (T := 41) (j := 11) (n := 30) (tg := 20) rfl rfl rfl rfl r8 v8 u8 (by decide) (by decide) z8
  intro g9 t9
  have r9 : RR dE ad9 (iniP ((41, 0) :: (39, 0) :: (38, 0) :: (37, 0) :: (36, 0) :: (34, 0) :: (33, 0) :: (32, 0) :: (31, 0) :: (8, 0) :: kA 10 iAL) ((8, 11) :: (8, 9) :: (8, 8) :: (8, 7) :: (8, 6) :: (8, 4) :: (8, 3) :: (8, 2) :: (8, 1) :: kB 10 iBL) 10) (iniP [] [] 10) g9 := by rw [t9, e8, ← y8]; exact rr
  have y7 := x7.trans y7
  have y8 := x8.trans y8
  intro q9 z9 h9 e9
  obtain ⟨ad10, x7, x8, tg, rr, v10, u10⟩ := q_arr (T := 42) (j := 12) (n := 30) (tg := 20) rfl rfl rfl rfl r9 v9 u9 (by decide) (by decide) z9
  intro g10 t10
  have r10 : RR dE ad10 (iniP ((42, 0) :: (41, 0) :: (39, 0) :: (38, 0) :: (37, 0) :: (36, 0) :: (34, 0) :: (33, 0) :: (32, 0) :: (31, 0) :: (8, 0) :: kA 10 iAL) ((8, 12) :: (8, 11) :: (8, 9) :: (8, 8) :: (8, 7) :: (8, 6) :: (8, 4) :: (8, 3) :: (8, 2) :: (8, 1) :: kB 10 iBL) 10) (iniP [] [] 10) g10 := by rw [t10, e9, ← y8]; exact rr
  have y7 := x7.trans y7
  have y8 := x8.trans y8
  intro q10 z10 h10 e10
  obtain ⟨ad11, x7, x8, tg, rr, v11, u11⟩ := q_arr (T := 43) (j := 13) (n := 30) (tg := 20) rfl rfl rfl rfl r10 v10 u10 (by decide) (by decide) z10
  intro g11 t11
  have r11 : RR dE ad11 (iniP ((43, 0) :: (42, 0) :: (41, 0) :: (39, 0) :: (38, 0) :: (37, 0) :: (36, 0) :: (34, 0) :: (33, 0) :: (32, 0) :: (31, 0) :: (8, 0) :: kA 10 iAL) ((8, 13) :: (8, 12) :: (8, 11) :: (8, 9) :: (8, 8) :: (8, 7) :: (8, 6) :: (8, 4) :: (8, 3) :: (8, 2) :: (8, 1) :: kB 10 iBL) 10) (iniP [] [] 10) g11 := by rw [t11, e10, ← y8]; exact rr
  have y7 := x7.trans y7
  have y8 := x8.trans y8
  intro q11 z11 h11 e11
  obtain ⟨ad12, x7, x8, tg, rr, v12, u12⟩ := q_arr (T := 44) (j := 14) (n := 300) (tg := 20) rfl rfl rfl rfl r11 v11 u11 (by decide) (by decide) z11
  intro g12 t12
  have r12 : RR dE ad12 (iniP ((44, 0) :: (43, 0) :: (42, 0) :: (41, 0) :: (39, 0) :: (38, 0) :: (37, 0) :: (36, 0) :: (34, 0) :: (33, 0) :: (32, 0) :: (31, 0) :: (8, 0) :: kA 10 iAL) ((8, 14) :: (8, 13) :: (8, 12) :: (8, 11) :: (8, 9) :: (8, 8) :: (8, 7) :: (8, 6) :: (8, 4) :: (8, 3) :: (8, 2) :: (8, 1) :: kB 10 iBL) 10) (iniP [] [] 10) g12 := by rw [t12, e11, ← y8]; exact rr
  have y7 := x7.trans y7
  have y8 := x8.trans y8
  intro q12 z12 h12 e12
  obtain ⟨ad13, x7, x8, tg, rr, v13, u13⟩ := q_arr (T := 45) (j := 15) (n := 30) (tg := 20) rfl rfl rfl rfl r12 v12 u12 (by decide) (by decide) z12
  intro g13 t13
  have r13 : RR dE ad13 (iniP ((45, 0) :: (44, 0) :: (43, 0) :: (42, 0) :: (41, 0) :: (39, 0) :: (38, 0) :: (37, 0) :: (36, 0) :: (34, 0) :: (33, 0) :: (32, 0) :: (31, 0) :: (8, 0) :: kA 10 iAL) ((8, 15) :: (8, 14) :: (8, 13) :: (8, 12) :: (8, 11) :: (8, 9) :: (8, 8) :: (8, 7) :: (8, 6) :: (8, 4) :: (8, 3) :: (8, 2) :: (8, 1) :: kB 10 iBL) 10) (iniP [] [] 10) g13 := by rw [t13, e12, ← y8]; exact rr
  have y7 := x7.trans y7
  have y8 := x8.trans y8
  intro q13 z13 h13 e13
  obtain ⟨ad14, x7, x8, tg, rr, v14, u14⟩ := q_arr (T := 46) (j := 16) (n := 30) (tg := 21) rfl rfl rfl rfl r13 v13 u13 (by decide) (by decide) z13
  intro g14 t14
  have r14 : RR dE ad14 (iniP ((46, 0) :: (45, 0) :: (44, 0) :: (43, 0) :: (42, 0) :: (41, 0) :: (39, 0) :: (38, 0) :: (37, 0) :: (36, 0) :: (34, 0) :: (33, 0) :: (32, 0) :: (31, 0) :: (8, 0) :: kA 10 iAL) ((8, 16) :: (8, 15) :: (8, 14) :: (8, 13) :: (8, 12) :: (8, 11) :: (8, 9) :: (8, 8) :: (8, 7) :: (8, 6) :: (8, 4) :: (8, 3) :: (8, 2) :: (8, 1) :: kB 10 iBL) 10) (iniP [] [] 10) g14 := by rw [t14, e13, ← y8]; exact rr
  have y7 := x7.trans y7
  have y8 := x8.trans y8
  intro q14 z14 h14 e14
  obtain ⟨ad15, x7, x8, tg, rr, v15, u15⟩ := q_arr (T := 47) (j := 17) (n := 30) (tg := 21) rfl rfl rfl rfl r14 v14 u14 (by decide) (by decide) z14
  intro g15 t15
  have r15 : RR dE ad15 (iniP ((47, 0) :: (46, 0) :: (45, 0) :: (44, 0) :: (43, 0) :: (42, 0) :: (41, 0) :: (39, 0) :: (38, 0) :: (37, 0) :: (36, 0) :: (34, 0) :: (33, 0) :: (32, 0) :: (31, 0) :: (8, 0) :: kA 10 iAL) ((8, 17) :: (8, 16) :: (8, 15) :: (8, 14) :: (8, 13) :: (8, 12) :: (8, 11) :: (8, 9) :: (8, 8) :: (8, 7) :: (8, 6) :: (8, 4) :: (8, 3) :: (8, 2) :: (8, 1) :: kB 10 iBL) 10) (iniP [] [] 10) g15 := by rw [t15, e14, ← y8]; exact rr
  have y7 := x7.trans y7
  have y8 := x8.trans y8
  intro q15 z15 h15 e15
  obtain ⟨ad16, x7, x8, tg, rr, v16, u16⟩ := q_arr (T := 48) (j := 18) (n := 30) (tg := 21) rfl rfl rfl rfl r15 v15 u15 (by decide) (by decide) z15
  intro g16 t16
  have r16 : RR dE ad16 (iniP ((48, 0) :: (47, 0) :: (46, 0) :: (45, 0) :: (44, 0) :: (43, 0) :: (42, 0) :: (41, 0) :: (39, 0) :: (38, 0) :: (37, 0) :: (36, 0) :: (34, 0) :: (33, 0) :: (32, 0) :: (31, 0) :: (8, 0) :: kA 10 iAL) ((8, 18) :: (8, 17) :: (8, 16) :: (8, 15) :: (8, 14) :: (8, 13) :: (8, 12) :: (8, 11) :: (8, 9) :: (8, 8) :: (8, 7) :: (8, 6) :: (8, 4) :: (8, 3) :: (8, 2) :: (8, 1) :: kB 10 iBL) 10) (iniP [] [] 10) g16 := by rw [t16, e15, ← y8]; exact rr
  have y7 := x7.trans y7
  have y8 := x8.trans y8
  intro q16 z16 h16 e16
  obtain ⟨ad17, x7, x8, tg, rr, v17, u17⟩ := q_arr (T := 49) (j := 19) (n := 8) (tg := 20) rfl rfl rfl rfl r16 v16 u16 (by decide) (by decide) z16
  intro g17 t17
  have r17 : RR dE ad17 (iniP ((49, 0) :: (48, 0) :: (47, 0) :: (46, 0) :: (45, 0) :: (44, 0) :: (43, 0) :: (42, 0) :: (41, 0) :: (39, 0) :: (38, 0) :: (37, 0) :: (36, 0) :: (34, 0) :: (33, 0) :: (32, 0) :: (31, 0) :: (8, 0) :: kA 10 iAL) ((8, 19) :: (8, 18) :: (8, 17) :: (8, 16) :: (8, 15) :: (8, 14) :: (8, 13) :: (8, 12) :: (8, 11) :: (8, 9) :: (8, 8) :: (8, 7) :: (8, 6) :: (8, 4) :: (8, 3) :: (8, 2) :: (8, 1) :: kB 10 iBL) 10) (iniP [] [] 10) g17 := by rw [t17, e16, ← y8]; exact rr
  have y7 := x7.trans y7
  have y8 := x8.trans y8
  intro q17 z17 h17 e17
  obtain ⟨ad18, x7, x8, tg, rr, v18, u18⟩ := q_arr (T := 50) (j := 20) (n := 30) (tg := 20) rfl rfl rfl rfl r17 v17 u17 (by decide) (by decide) z17
  intro g18 t18
  have r18 : RR dE ad18 (iniP ((50, 0) :: (49, 0) :: (48, 0) :: (47, 0) :: (46, 0) :: (45, 0) :: (44, 0) :: (43, 0) :: (42, 0) :: (41, 0) :: (39, 0) :: (38, 0) :: (37, 0) :: (36, 0) :: (34, 0) :: (33, 0) :: (32, 0) :: (31, 0) :: (8, 0) :: kA 10 iAL) ((8, 20) :: (8, 19) :: (8, 18) :: (8, 17) :: (8, 16) :: (8, 15) :: (8, 14) :: (8, 13) :: (8, 12) :: (8, 11) :: (8, 9) :: (8, 8) :: (8, 7) :: (8, 6) :: (8, 4) :: (8, 3) :: (8, 2) :: (8, 1) :: kB 10 iBL) 10) (iniP [] [] 10) g18 := by rw [t18, e17, ← y8]; exact rr
  have y7 := x7.trans y7
  have y8 := x8.trans y8
  intro q18 z18 h18 e18
  obtain ⟨ad19, x7, x8, tg, rr, v19, u19⟩ := q_arr (T := 54) (j := 24) (n := 400) (tg := 20) rfl rfl rfl rfl r18 v18 u18 (by decide) (by decide) z18
  intro g19 t19
  have r19 : RR dE ad19 (iniP ((54, 0) :: (50, 0) :: (49, 0) :: (48, 0) :: (47, 0) :: (46, 0) :: (45, 0) :: (44, 0) :: (43, 0) :: (42, 0) :: (41, 0) :: (39, 0) :: (38, 0) :: (37, 0) :: (36, 0) :: (34, 0) :: (33, 0) :: (32, 0) :: (31, 0) :: (8, 0) :: kA 10 iAL) ((8, 24) :: (8, 20) :: (8, 19) :: (8, 18) :: (8, 17) :: (8, 16) :: (8, 15) :: (8, 14) :: (8, 13) :: (8, 12) :: (8, 11) :: (8, 9) :: (8, 8) :: (8, 7) :: (8, 6) :: (8, 4) :: (8, 3) :: (8, 2) :: (8, 1) :: kB 10 iBL) 10) (iniP [] [] 10) g19 := by rw [t19, e18, ← y8]; exact rr
  have y7 := x7.trans y7
  have y8 := x8.trans y8
  intro q19 z19 h19 e19
  obtain ⟨ad20, x7, x8, tg, rr, v20, u20⟩ := q_arr (T := 55) (j := 25) (n := 1200) (tg := 21) rfl rfl rfl rfl r19 v19 u19 (by decide) (by decide) z19
  intro g20 t20
  have r20 : RR dE ad20 (iniP ((55, 0) :: (54, 0) :: (50, 0) :: (49, 0) :: (48, 0) :: (47, 0) :: (46, 0) :: (45, 0) :: (44, 0) :: (43, 0) :: (42, 0) :: (41, 0) :: (39, 0) :: (38, 0) :: (37, 0) :: (36, 0) :: (34, 0) :: (33, 0) :: (32, 0) :: (31, 0) :: (8, 0) :: kA 10 iAL) ((8, 25) :: (8, 24) :: (8, 20) :: (8, 19) :: (8, 18) :: (8, 17) :: (8, 16) :: (8, 15) :: (8, 14) :: (8, 13) :: (8, 12) :: (8, 11) :: (8, 9) :: (8, 8) :: (8, 7) :: (8, 6) :: (8, 4) :: (8, 3) :: (8, 2) :: (8, 1) :: kB 10 iBL) 10) (iniP [] [] 10) g20 := by rw [t20, e19, ← y8]; exact rr
  have y7 := x7.trans y7
  have y8 := x8.trans y8
  intro q20 z20 h20 e20
  obtain ⟨ad21, x7, x8, tg, rr, v21, u21⟩ := q_arr (T := 56) (j := 26) (n := 10) (tg := 20) rfl rfl rfl rfl r20 v20 u20 (by decide) (by decide) z20
  intro g21 t21
  have r21 : RR dE ad21 (iniP ((56, 0) :: (55, 0) :: (54, 0) :: (50, 0) :: (49, 0) :: (48, 0) :: (47, 0) :: (46, 0) :: (45, 0) :: (44, 0) :: (43, 0) :: (42, 0) :: (41, 0) :: (39, 0) :: (38, 0) :: (37, 0) :: (36, 0) :: (34, 0) :: (33, 0) :: (32, 0) :: (31, 0) :: (8, 0) :: kA 10 iAL) ((8, 26) :: (8, 25) :: (8, 24) :: (8, 20) :: (8, 19) :: (8, 18) :: (8, 17) :: (8, 16) :: (8, 15) :: (8, 14) :: (8, 13) :: (8, 12) :: (8, 11) :: (8, 9) :: (8, 8) :: (8, 7) :: (8, 6) :: (8, 4) :: (8, 3) :: (8, 2) :: (8, 1) :: kB 10 iBL) 10) (iniP [] [] 10) g21 := by rw [t21, e20, ← y8]; exact rr
  have y7 := x7.trans y7
  have y8 := x8.trans y8
  exact hp ad21 g21 y7 y8 r21

/-! the law's state at the start -/
abbrev iAF : List (Nat × Nat) := (22, 0) :: ((56, 0) :: (55, 0) :: (54, 0) :: (50, 0) :: (49, 0) :: (48, 0) :: (47, 0) :: (46, 0) :: (45, 0) :: (44, 0) :: (43, 0) :: (42, 0) :: (41, 0) :: (39, 0) :: (38, 0) :: (37, 0) :: (36, 0) :: (34, 0) :: (33, 0) :: (32, 0) :: (31, 0) :: (8, 0) :: kA 10 iAL)
abbrev iBF : List (Nat × Nat) := ((8, 26) :: (8, 25) :: (8, 24) :: (8, 20) :: (8, 19) :: (8, 18) :: (8, 17) :: (8, 16) :: (8, 15) :: (8, 14) :: (8, 13) :: (8, 12) :: (8, 11) :: (8, 9) :: (8, 8) :: (8, 7) :: (8, 6) :: (8, 4) :: (8, 3) :: (8, 2) :: (8, 1) :: kB 10 iBL)
theorem WE_ini : WE (iniP iAF iBF 10) := by
  have z : ∀ {a b c : Nat}, a ≠ 11 → a ≠ 12 → a ≠ 4 → iniP iAF iBF 10 a b c = 0 := fun h1 h2 h3 => ipx h1 h2 (fun q => h3 q.1)
  have no : ∀ t i, t = 5 ∨ t = 2 ∨ t = 24 ∨ t = 3 ∨ t = 19 ∨ t = 6 ∨ t = 26 → ¬ V (iniP iAF iBF 10) t i := by
    intro t i ht v
    have v := ipV.mp v
    rcases ht with rfl | rfl | rfl | rfl | rfl | rfl | rfl <;> simp [kA, iAL] at v
  have s : ∀ i, iniP iAF iBF 10 1 i 2 = 0 := fun i => z (by decide) (by decide) (by decide)
  have v4 : ∀ k j, j ≠ 1 → iniP iAF iBF 10 4 k j = 0 := fun k j h => ipx (by decide) (by decide) (fun q => h q.2.1)
  have lk : ∀ {t i : Nat}, (t, i) ∈ iBF → iniP iAF iBF 10 12 t i ≠ 0 := fun h => by rw [ip12, if_pos h]; decide
  refine ⟨⟨⟨?_, ?_, ?_, ?_, ?_⟩, ?_, ?_⟩, ?_, ipV.mpr (by decide)⟩
  · refine ⟨⟨ipV.mpr (by decide), ipV.mpr (by decide), ipV.mpr (by decide), ipV.mpr (by decide), lk (by decide), lk (by decide)⟩, fun k hk => ?_, fun i h1 h5 => ?_, fun t m => ?_, fun i => ?_, fun i => ?_, fun i => ?_, fun i => ?_, fun i h1 h5 => ?_⟩
    · have : ∀ k, k < 10 → (4, k) ∈ iAF ∧ (23, k) ∈ iBF := by decide
      exact ⟨ipV.mpr (this k hk).1, lk (this k hk).2⟩
    · have all : ∀ k, k < 5 → (1, k + 1) ∈ iAF ∧ (1, k + 1) ∈ iBF ∧ (7, k + 1) ∈ iBF := by decide
      have this := all (i - 1) (by omega)
      have ei : i - 1 + 1 = i := by omega
      rw [ei] at this
      obtain ⟨a, b, c⟩ := this
      exact ⟨ipV.mpr a, lk b, lk c⟩
    · rcases ma_cases m with rfl | rfl | rfl | rfl | rfl | rfl | rfl | rfl | rfl | rfl | rfl | rfl | rfl | rfl | rfl | rfl | rfl | rfl | rfl | rfl | rfl
      all_goals exact ⟨ipV.mpr (by decide), lk (by decide)⟩
    · rw [s]; exact ⟨fun v => absurd v (no 5 i (by simp)), fun q => absurd q (Nat.not_lt_zero _)⟩
    · rw [s]; exact ⟨⟨fun v => absurd v (no 2 i (by simp)), fun q => absurd q (Nat.not_lt_zero _)⟩, ⟨fun v => absurd v (no 24 i (by simp)), fun q => absurd q (Nat.not_lt_zero _)⟩, fun q => absurd q (Nat.not_lt_zero _)⟩
    · rw [s]; exact ⟨⟨fun v => absurd v (no 3 i (by simp)), fun q => absurd q (Nat.not_lt_zero _)⟩, ⟨fun v => absurd v (no 19 i (by simp)), fun q => absurd q (Nat.not_lt_zero _)⟩, fun q => absurd q (Nat.not_lt_zero _)⟩
    · rw [s]; exact ⟨fun v => absurd v (no 6 i (by simp)), fun q => absurd q (Nat.not_lt_zero _)⟩
    · rw [s, z (by decide) (by decide) (by decide)]
      exact ⟨⟨fun v => absurd v (no 26 i (by simp)), fun q => absurd rfl q⟩, Nat.le_refl _, by decide⟩
  · refine ⟨fun k => ⟨by rw [v4 k 0 (by decide)]; decide, by rw [v4 k 3 (by decide)]; decide⟩, fun l => ?_, fun c => ?_, fun n k => ?_, ?_, fun l hl => ?_, fun c hc => ?_, fun n hn => ?_, fun c k => ?_, fun c => ?_, fun s' => ?_⟩
    · rw [z (by decide) (by decide) (by decide), z (by decide) (by decide) (by decide), z (by decide) (by decide) (by decide), z (by decide) (by decide) (by decide)]; decide
    · rw [z (by decide) (by decide) (by decide), z (by decide) (by decide) (by decide), z (by decide) (by decide) (by decide), z (by decide) (by decide) (by decide), z (by decide) (by decide) (by decide), z (by decide) (by decide) (by decide)]; decide
    · rw [z (by decide) (by decide) (by decide)]; decide
    · rw [s, s, s, s]; decide
    · rw [s] at hl; exact absurd hl (Nat.not_lt_zero _)
    · rw [s] at hc; exact absurd hc (Nat.not_lt_zero _)
    · rw [s] at hn; exact absurd hn (Nat.not_lt_zero _)
    · rw [z (by decide) (by decide) (by decide)]; exact Nat.zero_le _
    · rw [z (by decide) (by decide) (by decide)]; exact Nat.zero_le _
    · rw [z (by decide) (by decide) (by decide)]; exact Nat.zero_le _
  · intro n c hc
    unfold sgnd
    rw [z (by decide) (by decide) (by decide), z (by decide) (by decide) (by decide)]
    have : nI 0 &&& (nI 1 <<< (nI c &&& 31)) = nI 0 := Int32.zero_and
    rw [this]
    exact ⟨by decide, by simp⟩
  · refine ⟨fun i _ _ => ?_, ?_, ?_⟩
    · rw [z (by decide) (by decide) (by decide)]; exact Or.inl rfl
    · rw [z (by decide) (by decide) (by decide)]; exact Or.inl rfl
    · rw [z (by decide) (by decide) (by decide)]; exact Nat.zero_le _
  · refine ⟨fun _ _ _ => z (by decide) (by decide) (by decide), fun _ _ _ => ⟨z (by decide) (by decide) (by decide), z (by decide) (by decide) (by decide)⟩, fun _ _ _ => ⟨z (by decide) (by decide) (by decide), z (by decide) (by decide) (by decide), z (by decide) (by decide) (by decide)⟩, fun _ _ _ => z (by decide) (by decide) (by decide)⟩
  · refine ⟨fun s' hs => absurd (z (by decide) (by decide) (by decide)) hs, fun j hj => ?_, fun j j' hj => ?_, ?_, ⟨?_, fun c hc => ?_⟩, fun c hc => ?_⟩
    · rw [s] at hj; exact absurd hj (Nat.not_lt_zero _)
    · rw [s] at hj; exact absurd hj (Nat.not_lt_zero _)
    · rw [s]; exact z (by decide) (by decide) (by decide)
    · rw [z (by decide) (by decide) (by decide)]; exact Nat.zero_le _
    · rw [s] at hc; exact absurd hc (Nat.not_lt_zero _)
    · rw [s] at hc; exact absurd hc (Nat.not_lt_zero _)
  · refine ⟨fun p => ?_, fun c k hc => ?_, fun p hp => ?_⟩
    · rw [z (by decide) (by decide) (by decide), z (by decide) (by decide) (by decide)]; decide
    · rw [s] at hc; exact absurd hc (Nat.not_lt_zero _)
    · rw [s] at hp; exact absurd hp (Nat.not_lt_zero _)
  · intro n m hn
    rw [s] at hn; exact absurd hn (Nat.not_lt_zero _)
/-- the heap of the start: the empty row alone -/
def hp0 (dE : Nat) : Hp := (fun b => if b = dE then 27 else 0, fun _ => 0, fun _ _ => 0, fun _ _ => none, fun _ _ => 0)
theorem RR_ini {μ : St} : RR dE (fun _ _ => dE) (iniP [(27, 0)] [] 0) μ (hp0 dE) := by
  have o : ∀ {t i : Nat}, V (iniP [(27, 0)] [] 0) t i → t = 27 ∧ i = 0 := fun v => by have := ipV.mp v; simpa using this
  refine ⟨fun t i t' i' v v' _ => ?_, fun t i v => ?_, fun t i j v w => ?_, fun t i j x v e => ?_, fun j v => ?_, fun t n v w => ?_, ipV.mpr (by decide), rfl, fun v => ?_⟩
  · obtain ⟨rfl, rfl⟩ := o v
    obtain ⟨rfl, rfl⟩ := o v'
    exact ⟨rfl, rfl⟩
  · obtain ⟨rfl, rfl⟩ := o v
    exact ⟨if_pos rfl, by decide, rfl⟩
  · obtain ⟨rfl, rfl⟩ := o v
    cases w
  · obtain ⟨rfl, rfl⟩ := o v
    cases e
  · cases (o v).1
  · rw [(o v).1] at w; cases w
  · cases (o v).1
/-- new line, new Model, new row: the law's state -/
theorem GS_ini {h' : Hp} {x m9 o : Nat} (r : RR dE ad (iniP ((56, 0) :: (55, 0) :: (54, 0) :: (50, 0) :: (49, 0) :: (48, 0) :: (47, 0) :: (46, 0) :: (45, 0) :: (44, 0) :: (43, 0) :: (42, 0) :: (41, 0) :: (39, 0) :: (38, 0) :: (37, 0) :: (36, 0) :: (34, 0) :: (33, 0) :: (32, 0) :: (31, 0) :: (8, 0) :: kA 10 iAL) ((8, 26) :: (8, 25) :: (8, 24) :: (8, 20) :: (8, 19) :: (8, 18) :: (8, 17) :: (8, 16) :: (8, 15) :: (8, 14) :: (8, 13) :: (8, 12) :: (8, 11) :: (8, 9) :: (8, 8) :: (8, 7) :: (8, 6) :: (8, 4) :: (8, 3) :: (8, 2) :: (8, 1) :: kB 10 iBL) 10) (iniP [] [] 10) h) {q : Nat} (zq : hT h q = 0) (e7 : ad 7 0 = x) (e8 : ad 8 0 = m9) (eo : o = q) (eh : h' = sN h q 22 1) : GS dE x m9 o h' 0 0 := by
  obtain ⟨ad1, r1, f1, o1⟩ := n_new (t := 22) (i := 0) (n := 1) r zq (by decide) (by decide) rfl (fun e => by cases e) (fun j e => by omega) (fun e => by omega) (fun e => by cases e) (fun e => by cases e) (by decide)
  have r2 : RR dE ad1 (iniP iAF iBF 10) (iniP iAF iBF 10) h' := by
    rw [eh]
    refine r1.eqM (fun a b c t => ?_)
    have a11 : a ≠ 11 ∧ a ≠ 12 := by unfold toldM at t; omega
    unfold iniP
    rw [if_neg a11.1, if_neg a11.2, if_neg a11.1, if_neg a11.2]
  exact ⟨ad1, _, r2, WE_ini, by rw [o1 _ _ (fun z => by cases z.1)]; exact e7, by rw [o1 _ _ (fun z => by cases z.1)]; exact e8, f1.trans eo.symm, Nat.le_of_eq (ipx (by decide) (by decide) (by simp)), ipx (by decide) (by decide) (by simp)⟩
end IN
