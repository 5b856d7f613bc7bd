/-! the typed heap: by address a tag, a length, ints, references, longs -/
abbrev Hp : Type := (Nat → Nat) × (Nat → Nat) × (Nat → Nat → Int32) × (Nat → Nat → Option Nat) × (Nat → Nat → Int64)
def hT (h : Hp) (a : Nat) : Nat := h.1 a
def hL (h : Hp) (a : Nat) : Nat := h.2.1 a
def hI (h : Hp) (a k : Nat) : Int32 := h.2.2.1 a k
def hR (h : Hp) (a k : Nat) : Option Nat := h.2.2.2.1 a k
def hJ (h : Hp) (a k : Nat) : Int64 := h.2.2.2.2 a k
def sI (h : Hp) (a k : Nat) (v : Int32) : Hp := (h.1, h.2.1, fun b j => if b = a ∧ j = k then v else h.2.2.1 b j, h.2.2.2.1, h.2.2.2.2)
def sR (h : Hp) (a k : Nat) (v : Option Nat) : Hp := (h.1, h.2.1, h.2.2.1, fun b j => if b = a ∧ j = k then v else h.2.2.2.1 b j, h.2.2.2.2)
def sJ (h : Hp) (a k : Nat) (v : Int64) : Hp := (h.1, h.2.1, h.2.2.1, h.2.2.2.1, fun b j => if b = a ∧ j = k then v else h.2.2.2.2 b j)
/-- a whole row of references -/
def sA (h : Hp) (a : Nat) (f : Nat → Option Nat) : Hp := (h.1, h.2.1, h.2.2.1, fun b j => if b = a then f j else h.2.2.2.1 b j, h.2.2.2.2)
/-- a new cell -/
def sN (h : Hp) (a t n : Nat) : Hp := (fun b => if b = a then t else h.1 b, fun b => if b = a then n else h.2.1 b, fun b j => if b = a then 0 else h.2.2.1 b j, fun b j => if b = a then none else h.2.2.2.1 b j, fun b j => if b = a then 0 else h.2.2.2.2 b j)
theorem hT_sI (h a k v b) : hT (sI h a k v) b = hT h b := rfl
theorem hL_sI (h a k v b) : hL (sI h a k v) b = hL h b := rfl
theorem hR_sI (h a k v b j) : hR (sI h a k v) b j = hR h b j := rfl
theorem hJ_sI (h a k v b j) : hJ (sI h a k v) b j = hJ h b j := rfl
theorem hI_sI (h a k v b j) : hI (sI h a k v) b j = if b = a ∧ j = k then v else hI h b j := rfl
theorem hT_sR (h a k v b) : hT (sR h a k v) b = hT h b := rfl
theorem hL_sR (h a k v b) : hL (sR h a k v) b = hL h b := rfl
theorem hI_sR (h a k v b j) : hI (sR h a k v) b j = hI h b j := rfl
theorem hJ_sR (h a k v b j) : hJ (sR h a k v) b j = hJ h b j := rfl
theorem hR_sR (h a k v b j) : hR (sR h a k v) b j = if b = a ∧ j = k then v else hR h b j := rfl
theorem hT_sJ (h a k v b) : hT (sJ h a k v) b = hT h b := rfl
theorem hL_sJ (h a k v b) : hL (sJ h a k v) b = hL h b := rfl
theorem hI_sJ (h a k v b j) : hI (sJ h a k v) b j = hI h b j := rfl
theorem hR_sJ (h a k v b j) : hR (sJ h a k v) b j = hR h b j := rfl
theorem hJ_sJ (h a k v b j) : hJ (sJ h a k v) b j = if b = a ∧ j = k then v else hJ h b j := rfl
theorem hT_sA (h a f b) : hT (sA h a f) b = hT h b := rfl
theorem hL_sA (h a f b) : hL (sA h a f) b = hL h b := rfl
theorem hI_sA (h a f b j) : hI (sA h a f) b j = hI h b j := rfl
theorem hJ_sA (h a f b j) : hJ (sA h a f) b j = hJ h b j := rfl
theorem hR_sA (h a f b j) : hR (sA h a f) b j = if b = a then f j else hR h b j := rfl
theorem hT_sN (h a t n b) : hT (sN h a t n) b = if b = a then t else hT h b := rfl
theorem hL_sN (h a t n b) : hL (sN h a t n) b = if b = a then n else hL h b := rfl
theorem hI_sN (h a t n b j) : hI (sN h a t n) b j = if b = a then 0 else hI h b j := rfl
theorem hR_sN (h a t n b j) : hR (sN h a t n) b j = if b = a then none else hR h b j := rfl
theorem hJ_sN (h a t n b j) : hJ (sN h a t n) b j = if b = a then 0 else hJ h b j := rfl
/-- what stays for all launches of one law: classes, array classes by tag, the base, the empty row of ArrayList -/
abbrev Ev : Type := va_G × (Nat → ClassId) × Nat × Nat × Nat × (Nat × Nat × (Nat → Int32))
def eB (E : Ev) : Nat := E.2.2.1
def eE (E : Ev) : Nat := E.2.2.2.1
/-- the class object of the rows of objects -/
def eM (E : Ev) : Nat := E.2.2.2.2.1
/-- the script: where it lies, its length, what it holds -/
def eS (E : Ev) : Nat × Nat × (Nat → Int32) := E.2.2.2.2.2
abbrev vwCl : List vw_C := [(RJx4a65c, TJx4a65c, 3), (RX0, TX0, 9), (RX1, TX1, 3), (RX2, TX2, 4), (RX3, TX3, 5), (RX4, TX4, 3), (RX5, TX5, 10)]
/-- a cell by its tag -/
def cF (A : Nat → ClassId) (t n : Nat) (I : Nat → Int32) (R : Nat → Option Nat) (J : Nat → Int64) : va_E := match t with
  | 1 => .inr (0, [.int (I 0), va_rf (R 1), .int (I 2)])
  | 2 => .inr (1, [.int (I 0), .int (I 1), va_rf (R 2), .int (I 3), .int (I 4), va_rf (R 5), .int (I 6), .int (I 7), .int (I 8)])
  | 3 => .inr (2, [.int (I 0), va_rf (R 1), .int (I 2)])
  | 4 => .inr (3, [.int (I 0), .int (I 1), .int (I 2), .int (I 3)])
  | 5 => .inr (4, [.int (I 0), .int (I 1), .int (I 2), .int (I 3), .int (I 4)])
  | 6 => .inr (5, [.int (I 0), .int (I 1), .int (I 2)])
  | 7 => .inr (6, [va_rf (R 0), va_rf (R 1), va_rf (R 2), va_rf (R 3), va_rf (R 4), va_rf (R 5), va_rf (R 6), .int (I 7), .int (I 8), .int (I 9)])
  | 20 => .inl (A 0, n, .inl I)
  | 23 => .inl (A 3, n, .inr (.inr (.inr (.inr R))))
  | 24 => .inl (A 4, n, .inr (.inr (.inr (.inr R))))
  | 25 => .inl (A 5, n, .inr (.inr (.inr (.inr R))))
  | 26 => .inl (A 6, n, .inr (.inr (.inr (.inr R))))
  | 27 => .inr (99 + n, [])
  | _ => .inr (99, [])
def cE (E : Ev) (h : Hp) (a : Nat) : va_E := cF E.2.1 (hT h a) (hL h a) (hI h a) (hR h a) (hJ h a)
def tyE (A : Nat → ClassId) : List (ClassId × FieldType) := [(A 0, .int), (A 1, .int), (A 2, .int), (A 3, .object "TaktLine$Kind"), (A 4, .object "TaktLine$Lot"), (A 5, .object "TaktLine$Car"), (A 6, .object "java/lang/Object")]
/-- the read-only cell: a row of the class of object rows, of that length -/
def roAt (E : Ev) (a n : Nat) (H : Heap) : Prop := ∃ ce : Cell, H[a]? = some ce ∧ ce.cls = E.2.1 6 ∧ (∀ z, ce.vm ≠ .statics z) ∧ ce.slots.size = n
theorem roAt.kept {E : Ev} {a n : Nat} {H H1 : Heap} (h : roAt E a n H) (e : H1[a]? = H[a]?) : roAt E a n H1 := by
  obtain ⟨ce, h1, h2⟩ := h
  exact ⟨ce, e.trans h1, h2⟩
/-- the place of an object's class -/
def ePl (x : va_E) : Nat := match x with
  | .inl _ => 0
  | .inr q => q.1
theorem no27 {A : Nat → ClassId} {t n : Nat} {I : Nat → Int32} {R : Nat → Option Nat} {J : Nat → Int64} {ci : Nat} {r : vw_C} {fs : List Value} (hc : vwCl[ci]? = some r) (he : cF A t n I R J = .inr (ci, fs)) : t ≠ 27 := by
  rintro rfl
  have e : 99 + n = ci := congrArg ePl he
  rw [← e, List.getElem?_eq_none (l := vwCl) (by show 7 ≤ 99 + n; omega)] at hc
  cases hc
theorem no27l {A : Nat → ClassId} {t n : Nat} {I : Nat → Int32} {R : Nat → Option Nat} {J : Nat → Int64} {x : ClassId × vp_A} (he : cF A t n I R J = .inl x) : t ≠ 27 := by
  rintro rfl
  have e : (Sum.inr (99 + n, []) : va_E) = .inl x := he
  cases e
def HT (E : Ev) (h : Hp) (H : Heap) : Prop := ∀ a, hT h a ≠ 0 → (hT h a ≠ 27 → va_at E.1 vwCl (a, cE E h a) H) ∧ (hT h a = 27 → a < eB E ∧ roAt E a (hL h a) H) ∧ (hT h a ≠ 27 → eB E ≤ a)
abbrev bsA (E : Ev) : Nat → Prop := fun q => eB E ≤ q
theorem cE_of {E : Ev} {h h' : Hp} {a : Nat} (h1 : hT h' a = hT h a) (h2 : hL h' a = hL h a) (h3 : ∀ j, hI h' a j = hI h a j) (h4 : ∀ j, hR h' a j = hR h a j) (h5 : ∀ j, hJ h' a j = hJ h a j) : cE E h' a = cE E h a := by
  unfold cE
  rw [h1, h2, funext h3, funext h4, funext h5]
theorem cE_t {E : Ev} {h : Hp} {a t : Nat} (g : hT h a = t) : cE E h a = cF E.2.1 t (hL h a) (hI h a) (hR h a) (hJ h a) := by unfold cE; rw [g]
theorem HT.lt {E : Ev} {h : Hp} {H : Heap} (hH : HT E h H) {a : Nat} (g : hT h a ≠ 0) : a < H.size := by
  by_cases h27 : hT h a = 27
  · obtain ⟨-, ce, e, -⟩ := (hH a g).2.1 h27
    exact (Array.getElem?_eq_some_iff.mp e).1
  · exact ((hH a g).1 h27).lt
/-- the heap as a world of the kit: all cells but the read-only one -/
theorem ht_ws {E : Ev} {h : Hp} {H : Heap} (hH : HT E h H) : ∃ ws : va_W, va_P E.1 vwCl ws H ∧ va_D (bsA E) ws ∧ (∀ b, hT h b ≠ 0 → hT h b ≠ 27 → ∃ k : Nat, ws[k]? = some (b, cE E h b)) ∧ ∀ (k : Nat) (q : Nat × va_E), ws[k]? = some q → q.2 = cE E h q.1 := by
  refine ⟨((List.range H.size).filter (fun b => decide (hT h b ≠ 0 ∧ hT h b ≠ 27))).map (fun b => (b, cE E h b)), ?_, ⟨?_, ?_⟩, ?_, ?_⟩
  · intro k q hk
    obtain ⟨b, hb, rfl⟩ := List.mem_map.mp (List.mem_of_getElem? hk)
    have h2 := of_decide_eq_true (List.mem_filter.mp hb).2
    exact (hH b h2.1).1 h2.2
  · intro i j p q hi hj hpq
    rw [List.getElem?_map] at hi hj
    have hnd : ((List.range H.size).filter (fun b => decide (hT h b ≠ 0 ∧ hT h b ≠ 27))).Nodup := List.Pairwise.filter _ List.nodup_range
    generalize (List.range H.size).filter (fun b => decide (hT h b ≠ 0 ∧ hT h b ≠ 27)) = L at hi hj hnd
    cases hx : L[i]? with
    | none => rw [hx] at hi; cases hi
    | some x =>
      cases hy : L[j]? with
      | none => rw [hy] at hj; cases hj
      | some y =>
        rw [hx] at hi; rw [hy] at hj
        cases hi; cases hj
        have hxy : x = y := hpq
        subst hxy
        have hil := (List.getElem?_eq_some_iff.mp hx).1
        exact (List.getElem?_inj hil hnd).mp (hx.trans hy.symm)
  · intro k q hk
    obtain ⟨b, hb, rfl⟩ := List.mem_map.mp (List.mem_of_getElem? hk)
    have h2 := of_decide_eq_true (List.mem_filter.mp hb).2
    exact (hH b h2.1).2.2 h2.2
  · intro b h1 h2
    have hm : (b, cE E h b) ∈ ((List.range H.size).filter (fun b => decide (hT h b ≠ 0 ∧ hT h b ≠ 27))).map (fun b => (b, cE E h b)) :=
      List.mem_map.mpr ⟨b, List.mem_filter.mpr ⟨List.mem_range.mpr (hH.lt h1), decide_eq_true ⟨h1, h2⟩⟩, rfl⟩
    exact List.getElem?_of_mem hm
  · intro k q hk
    obtain ⟨b, hb, rfl⟩ := List.mem_map.mp (List.mem_of_getElem? hk)
    rfl
/-- the read-only cell stays -/
theorem ht_ro {E : Ev} {h : Hp} {H0 H H1 : Heap} {locs locs1 : List Loc} (hH : HT E h H) (hB : eB E ≤ H0.size) (hS : va_S (bsA E) H0 H locs) (hS1 : va_S (bsA E) H0 H1 locs1) {b : Nat} (g : hT h b = 27) : H1[b]? = H[b]? := by
  have h1 := ((hH b (by rw [g]; decide)).2.1 g).1
  rw [hS.2.1 b (Nat.lt_of_lt_of_le h1 hB) (Nat.not_le.mpr h1), hS1.2.1 b (Nat.lt_of_lt_of_le h1 hB) (Nat.not_le.mpr h1)]
/-- one cell changed -/
theorem ht_set {E : Ev} {h h' : Hp} {H0 H H1 : Heap} {locs locs1 : List Loc} {ws : va_W} {q0 a : Nat} {e0 e1 : va_E} (hH : HT E h H) (hB : eB E ≤ H0.size) (hS : va_S (bsA E) H0 H locs) (hS1 : va_S (bsA E) H0 H1 locs1)
    (hcov : ∀ b, hT h b ≠ 0 → hT h b ≠ 27 → ∃ k : Nat, ws[k]? = some (b, cE E h b)) (hq0 : ws[q0]? = some (a, e0)) (hP1 : va_P E.1 vwCl (ws.set q0 (a, e1)) H1)
    (ht : ∀ b, hT h' b = hT h b) (ha : cE E h' a = e1) (hb : ∀ b, b ≠ a → cE E h' b = cE E h b) (hro : hT h a ≠ 27) : HT E h' H1 := by
  intro b hb0
  rw [ht b] at hb0
  by_cases hba : b = a
  · subst hba
    refine ⟨fun _ => ?_, fun z => absurd ((ht b).symm.trans z) hro, by rw [ht b]; exact (hH b hb0).2.2⟩
    rw [ha]
    exact hP1 q0 _ (List.getElem?_set_self (List.getElem?_eq_some_iff.mp hq0).1)
  · by_cases h27 : hT h b = 27
    · refine ⟨fun z => absurd ((ht b).trans h27) z, fun _ => ?_, fun z => absurd ((ht b).trans h27) z⟩
      obtain ⟨g1, g2⟩ := (hH b hb0).2.1 h27
      refine ⟨g1, ?_⟩
      have e := hb b hba
      rw [cE_t ((ht b).trans h27), cE_t h27] at e
      have e3 : 99 + hL h' b = 99 + hL h b := congrArg ePl e
      have e2 : hL h' b = hL h b := by omega
      rw [e2]
      exact g2.kept (ht_ro hH hB hS hS1 h27)
    · refine ⟨fun _ => ?_, fun z => absurd ((ht b).symm.trans z) h27, by rw [ht b]; exact (hH b hb0).2.2⟩
      rw [hb b hba]
      obtain ⟨k, hk⟩ := hcov b hb0 h27
      have hne : q0 ≠ k := fun z => by
        subst z
        rw [hq0] at hk
        cases hk
        exact hba rfl
      exact hP1 k _ (by rw [List.getElem?_set_ne hne]; exact hk)
/-- one cell more -/
theorem ht_push {E : Ev} {h : Hp} {H0 H H1 : Heap} {locs locs1 : List Loc} {ws : va_W} {q t n : Nat} {e1 : va_E} (hH : HT E h H) (hB : eB E ≤ H0.size) (hS : va_S (bsA E) H0 H locs) (hS1 : va_S (bsA E) H0 H1 locs1)
    (hcov : ∀ b, hT h b ≠ 0 → hT h b ≠ 27 → ∃ k : Nat, ws[k]? = some (b, cE E h b)) (hP1 : va_P E.1 vwCl (ws ++ [(q, e1)]) H1) (hD1 : va_D (bsA E) (ws ++ [(q, e1)]))
    (ht : t ≠ 27) (he : cF E.2.1 t n (fun _ => 0) (fun _ => none) (fun _ => 0) = e1) : hT h q = 0 ∧ HT E (sN h q t n) H1 := by
  have hlast : (ws ++ [(q, e1)])[ws.length]? = some (q, e1) := by simp
  have hbq : eB E ≤ q := hD1.2 ws.length _ hlast
  have hq : hT h q = 0 := by
    apply Decidable.byContradiction
    intro h0
    by_cases h27 : hT h q = 27
    · have := ((hH q h0).2.1 h27).1
      omega
    · obtain ⟨k, hk⟩ := hcov q h0 h27
      have hkl := (List.getElem?_eq_some_iff.mp hk).1
      have := hD1.1 k ws.length (q, cE E h q) (q, e1) (by rw [List.getElem?_append_left hkl]; exact hk) hlast rfl
      omega
  refine ⟨hq, fun b hb0 => ?_⟩
  by_cases hbq' : b = q
  · subst hbq'
    have e1' : hT (sN h b t n) b = t := by rw [hT_sN, if_pos rfl]
    refine ⟨fun _ => ?_, fun z => absurd (e1'.symm.trans z) ht, fun _ => hbq⟩
    have : cE E (sN h b t n) b = e1 := by
      rw [← he]
      unfold cE
      rw [e1', show hL (sN h b t n) b = n by rw [hL_sN, if_pos rfl], show hI (sN h b t n) b = (fun _ => 0) from funext fun j => by rw [hI_sN, if_pos rfl],
        show hR (sN h b t n) b = (fun _ => none) from funext fun j => by rw [hR_sN, if_pos rfl], show hJ (sN h b t n) b = (fun _ => 0) from funext fun j => by rw [hJ_sN, if_pos rfl]]
    rw [this]
    exact hP1 ws.length _ hlast
  · have hbT : hT (sN h q t n) b = hT h b := by rw [hT_sN, if_neg hbq']
    rw [hbT] at hb0 ⊢
    by_cases h27 : hT h b = 27
    · refine ⟨fun z => absurd h27 z, fun _ => ?_, fun z => absurd h27 z⟩
      obtain ⟨g1, g2⟩ := (hH b hb0).2.1 h27
      rw [hL_sN, if_neg hbq']
      exact ⟨g1, g2.kept (ht_ro hH hB hS hS1 h27)⟩
    · refine ⟨fun _ => ?_, fun z => absurd z h27, (hH b hb0).2.2⟩
      rw [cE_of (h := h) hbT (by rw [hL_sN, if_neg hbq']) (fun j => by rw [hI_sN, if_neg hbq']) (fun j => by rw [hR_sN, if_neg hbq']) (fun j => by rw [hJ_sN, if_neg hbq'])]
      obtain ⟨k, hk⟩ := hcov b hb0 h27
      have hkl := (List.getElem?_eq_some_iff.mp hk).1
      exact hP1 k _ (by rw [List.getElem?_append_left hkl]; exact hk)
/-- nothing of the typed heap changed -/
theorem HT.kept {E : Ev} {h : Hp} {H H1 : Heap} (hH : HT E h H) (hk : ∀ q : Nat, q < H.size → H1[q]? = H[q]?) : HT E h H1 := fun a ha => ⟨fun g => ((hH a ha).1 g).kept (hk a (hH.lt ha)), fun g => ⟨((hH a ha).2.1 g).1, ((hH a ha).2.1 g).2.kept (hk a (hH.lt ha))⟩, (hH a ha).2.2⟩
theorem va_P1 {E : Ev} {h : Hp} {H : Heap} (hH : HT E h H) {a : Nat} (g : hT h a ≠ 0) (g27 : hT h a ≠ 27) : va_P E.1 vwCl [(a, cE E h a)] H := by
  intro k q hk
  have hz : k < 1 := (List.getElem?_eq_some_iff.mp hk).1
  rw [show k = 0 by omega] at hk
  cases hk
  exact (hH a g).1 g27
theorem cE_sI {E : Ev} {h : Hp} {a k : Nat} {v : Int32} {b : Nat} (hb : b ≠ a) : cE E (sI h a k v) b = cE E h b := cE_of rfl rfl (fun j => by rw [hI_sI, if_neg (fun z => hb z.1)]) (fun _ => rfl) (fun _ => rfl)
theorem cE_sR {E : Ev} {h : Hp} {a k : Nat} {v : Option Nat} {b : Nat} (hb : b ≠ a) : cE E (sR h a k v) b = cE E h b := cE_of rfl rfl (fun _ => rfl) (fun j => by rw [hR_sR, if_neg (fun z => hb z.1)]) (fun _ => rfl)
theorem cE_sJ {E : Ev} {h : Hp} {a k : Nat} {v : Int64} {b : Nat} (hb : b ≠ a) : cE E (sJ h a k v) b = cE E h b := cE_of rfl rfl (fun _ => rfl) (fun _ => rfl) (fun j => by rw [hJ_sJ, if_neg (fun z => hb z.1)])
theorem cE_sA {E : Ev} {h : Hp} {a : Nat} {f : Nat → Option Nat} {b : Nat} (hb : b ≠ a) : cE E (sA h a f) b = cE E h b := cE_of rfl rfl (fun _ => rfl) (fun j => by rw [hR_sA, if_neg hb]) (fun _ => rfl)
theorem hI_sI_row (h : Hp) (a k : Nat) (v : Int32) : hI (sI h a k v) a = upd (hI h a) k v := funext fun j => by rw [hI_sI]; unfold upd; by_cases z : j = k <;> simp [z]
theorem hR_sR_row (h : Hp) (a k : Nat) (v : Option Nat) : hR (sR h a k v) a = va_up (hR h a) k v := funext fun j => by rw [hR_sR]; unfold va_up; by_cases z : j = k <;> simp [z]
theorem hJ_sJ_row (h : Hp) (a k : Nat) (v : Int64) : hJ (sJ h a k v) a = vp_updL (hJ h a) k v := funext fun j => by rw [hJ_sJ]; unfold vp_updL; by_cases z : j = k <;> simp [z]
theorem hR_sA_row (h : Hp) (a : Nat) (f : Nat → Option Nat) : hR (sA h a f) a = f := funext fun j => by rw [hR_sA, if_pos rfl]
theorem cE_sI_t {E : Ev} {h : Hp} {a k t : Nat} {v : Int32} (g : hT h a = t) : cE E (sI h a k v) a = cF E.2.1 t (hL h a) (upd (hI h a) k v) (hR h a) (hJ h a) := by
  rw [cE_t (h := sI h a k v) (t := t) g, hI_sI_row]; rfl
theorem cE_sR_t {E : Ev} {h : Hp} {a k t : Nat} {v : Option Nat} (g : hT h a = t) : cE E (sR h a k v) a = cF E.2.1 t (hL h a) (hI h a) (va_up (hR h a) k v) (hJ h a) := by
  rw [cE_t (h := sR h a k v) (t := t) g, hR_sR_row]; rfl
theorem cE_sJ_t {E : Ev} {h : Hp} {a k t : Nat} {v : Int64} (g : hT h a = t) : cE E (sJ h a k v) a = cF E.2.1 t (hL h a) (hI h a) (hR h a) (vp_updL (hJ h a) k v) := by
  rw [cE_t (h := sJ h a k v) (t := t) g, hJ_sJ_row]; rfl
theorem cE_sA_t {E : Ev} {h : Hp} {a t : Nat} {f : Nat → Option Nat} (g : hT h a = t) : cE E (sA h a f) a = cF E.2.1 t (hL h a) (hI h a) f (hJ h a) := by
  rw [cE_t (h := sA h a f) (t := t) g, hR_sA_row]; rfl
