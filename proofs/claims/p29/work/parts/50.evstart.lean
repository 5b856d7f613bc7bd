/-! the start: classes, row classes, the empty row, strings -/
section ST
variable {args : Array Value} {s : State}
theorem EV_cls (hts : ∀ w ∈ lw_tbl, w.before args s = true) : ∃ D : va_G, ∀ (c : Nat) (q : vw_C), vwCl[c]? = some q → u_Kn s q.1 q.2.1 q.2.2 (D.1 c) (D.2 c) := by
  have hb : ∀ w ∈ BG, w.before args s = true := fun w hw => hts w (bg_tbl hw)
  have H : ∀ c : Nat, ∃ z : ClassId × (Nat → Nat), ∀ q : vw_C, vwCl[c]? = some q → u_Kn s q.1 q.2.1 q.2.2 z.1 z.2 := by
    intro c
    match c with
    | 0 =>
      obtain ⟨cC, iS, h⟩ := u_known (T := TJx4a65c) (N := 3) hb inJx4a65c (hb _ w_69)
      exact ⟨(cC, iS), fun q hq => by cases hq; exact h⟩
    | 1 =>
      obtain ⟨cC, iS, h⟩ := u_known (T := TX0) (N := 9) hb inX0 (hb _ w_627)
      exact ⟨(cC, iS), fun q hq => by cases hq; exact h⟩
    | 2 =>
      obtain ⟨cC, iS, h⟩ := u_known (T := TX1) (N := 3) hb inX1 (hb _ w_492)
      exact ⟨(cC, iS), fun q hq => by cases hq; exact h⟩
    | 3 =>
      obtain ⟨cC, iS, h⟩ := u_known (T := TX2) (N := 4) hb inX2 (hb _ w_96)
      exact ⟨(cC, iS), fun q hq => by cases hq; exact h⟩
    | 4 =>
      obtain ⟨cC, iS, h⟩ := u_known (T := TX3) (N := 5) hb inX3 (hb _ w_574)
      exact ⟨(cC, iS), fun q hq => by cases hq; exact h⟩
    | 5 =>
      obtain ⟨cC, iS, h⟩ := u_known (T := TX4) (N := 3) hb inX4 (hb _ w_412)
      exact ⟨(cC, iS), fun q hq => by cases hq; exact h⟩
    | 6 =>
      obtain ⟨cC, iS, h⟩ := u_known (T := TX5) (N := 10) hb inX5 (hb _ w_59)
      exact ⟨(cC, iS), fun q hq => by cases hq; exact h⟩
    | c + 7 => exact ⟨(0, fun _ => 0), fun q hq => by cases hq⟩
  exact ⟨(fun c => (Classical.choose (H c)).1, fun c => (Classical.choose (H c)).2), fun c q hq => Classical.choose_spec (H c) q hq⟩
theorem arr_prim {ty : FieldType} (hp : refKind ty = false) (h : (Cond.arrayClass ty).before args s = true) : ∃ cA : ClassId, ArrOfT s cA ty ∧ va_RA s cA ty := by
  obtain ⟨cA, k, comp, h1, h2, h3⟩ := Cond.arrayClass_spec h
  refine ⟨cA, fun n z => ⟨fun k h => (by cases h), k, h2, comp, h3⟩, ?_⟩
  cases ty <;> first | exact h1 | cases hp
theorem arr_obj {C : String} (h : (Cond.arrayOver (.object C)).before args s = true) : ∃ cA : ClassId, ArrOfT s cA (.object C) ∧ va_RA s cA (.object C) := by
  obtain ⟨comp, cA, k, h1, -, h2, h3, h4⟩ := Cond.arrayOver_spec h
  exact ⟨cA, fun n z => ⟨fun k h => (by cases h), k, h2, comp, h3⟩, k, comp, h2, h3, h1, h4⟩
theorem EV_arr (hts : ∀ w ∈ lw_tbl, w.before args s = true) : ∃ A : Nat → ClassId, ∀ (k : Nat) (q : ClassId × FieldType), (tyE A)[k]? = some q → ArrOfT s q.1 q.2 ∧ va_RA s q.1 q.2 := by
  have hb : ∀ w ∈ BG, w.before args s = true := fun w hw => hts w (bg_tbl hw)
  obtain ⟨c0, p0⟩ := arr_prim (ty := .int) rfl (hb _ w_510)
  obtain ⟨c1, p1⟩ := arr_prim (ty := .int) rfl (hb _ w_510)
  obtain ⟨c2, p2⟩ := arr_prim (ty := .int) rfl (hb _ w_510)
  obtain ⟨c3, p3⟩ := arr_obj (hts _ t_67)
  obtain ⟨c4, p4⟩ := arr_obj (hts _ t_633)
  obtain ⟨c5, p5⟩ := arr_obj (hts _ t_95)
  obtain ⟨c6, p6⟩ := arr_obj (hts _ t_306)
  refine ⟨fun k => match k with
    | 0 => c0
    | 1 => c1
    | 2 => c2
    | 3 => c3
    | 4 => c4
    | 5 => c5
    | _ => c6, fun k q hq => ?_⟩
  match k, hq with
  | 0, hq => cases hq; exact p0
  | 1, hq => cases hq; exact p1
  | 2, hq => cases hq; exact p2
  | 3, hq => cases hq; exact p3
  | 4, hq => cases hq; exact p4
  | 5, hq => cases hq; exact p5
  | 6, hq => cases hq; exact p6
  | k + 7, hq => cases hq
/-- a row's length is 0 -/
theorem len_0 {t : Term} {a : Nat} {cell : Cell} (ht : t.eval args s none [] s = some (.ref a)) (hc : s.arrayAt? a = some cell) (h : (Term.length t).eval args s none [] s = some (.int 0)) : cell.slots.size = 0 := by
  simp only [Term.eval, Option.bind_eq_bind, ht, Option.bind_some, hc] at h
  by_cases hn : cell.slots.size < 2 ^ 31
  · rw [if_pos hn] at h
    have h' : some (Value.int cell.slots.size.toInt32) = some (Value.int 0) := h
    have e : cell.slots.size.toInt32 = 0 := Value.int.inj (Option.some.inj h')
    have e2 : (nI cell.slots.size).toInt = (nI 0).toInt := congrArg Int32.toInt e
    rw [nI_toInt hn, nI_toInt (by decide)] at e2
    omega
  · rw [if_neg hn] at h
    cases h
abbrev stE : Term := .static AL "DEFAULTCAPACITY_EMPTY_ELEMENTDATA" "[Ljava/lang/Object;"
theorem EV_row {A : Nat → ClassId} (hA : ∀ (k : Nat) (q : ClassId × FieldType), (tyE A)[k]? = some q → ArrOfT s q.1 q.2 ∧ va_RA s q.1 q.2) (h1 : (Cond.exactly stE "[Ljava/lang/Object;").before args s = true) (h2 : (Cond.eq (.length stE) (.int 0)).before args s = true) :
    ∃ (a : Nat) (ce : Cell), stE.eval args s none [] s = some (.ref a) ∧ s.heap[a]? = some ce ∧ ce.cls = A 6 ∧ (∀ z, ce.vm ≠ .statics z) ∧ ce.slots.size = 0 := by
  obtain ⟨a, c, ce, k, q1, q2, q3, q4, q5, q6, -⟩ := Cond.exactly_spec h1
  obtain ⟨kA, comp, k1, k2, k3, k4⟩ := (hA 6 _ rfl).2
  have e : c = A 6 := by
    have k4' : s.vm.findClass "[Ljava/lang/Object;" = some (A 6) := k4
    rw [q2] at k4'
    exact Option.some.inj k4'
  refine ⟨a, ce, q1, q3, q6.trans e, fun z hz => (by rw [hz] at q5; cases q5), ?_⟩
  have hv : (Term.length stE).eval args s none [] s = some (.int 0) := va_eqI (u := .int 0) (by simpa [Cond.before, Cond.holds] using h2) rfl
  obtain ⟨a', cell, f1, f2, -⟩ := Term.length_spec hv
  cases q1.symm.trans f1
  cases q3.symm.trans (State.arrayAt?_spec f2).1
  exact len_0 q1 f2 hv
abbrev gvC : Cond := Jvm.Cond.and given_1 narrow_1
theorem g_ex : Cond.exactly stE "[Ljava/lang/Object;" ∈ flatC gvC := by decide +kernel
theorem g_le : Cond.eq (.length stE) (.int 0) ∈ flatC gvC := by decide +kernel
theorem g_us : Cond.isRef (.static Bundle.tN "UNASSIGNED_STACK" Bundle.steD) ∈ flatC gvC := by decide +kernel
theorem g_ss : Cond.isRef (.static Bundle.tN "SUPPRESSED_SENTINEL" Bundle.listD) ∈ flatC gvC := by decide +kernel
theorem g_mi : Cond.isRef (.mirror "[Ljava/lang/Object;") ∈ lw_tbl ∨ Cond.isRef (.mirror "[Ljava/lang/Object;") ∈ flatC gvC := by decide +kernel
theorem g_str : ∀ q ∈ STR, Cond.exactly (.string q.1 q.2.1) "java/lang/String" ∈ flatC gvC := by decide +kernel
theorem t_str : ∀ q ∈ STR, Cond.stringRef q.1 q.2.1 q.2.2 ∈ lw_tbl := by decide +kernel
theorem t_cas : ∀ q ∈ CAS, Cond.castable q.1 q.2 ∈ lw_tbl := by decide +kernel
theorem g_ncs : ∀ q ∈ NCS, Cond.not (.castable q.1 q.2) ∈ flatC gvC := by decide +kernel
theorem t_aos : ∀ q ∈ AOS, Cond.arrayOver (.object q) ∈ lw_tbl := by decide +kernel
theorem t_dcs : ∀ y ∈ DCS, Cond.declares y ∈ lw_tbl := by decide +kernel
/-- the start: what stays, and the typed heap with the empty row alone -/
theorem EV_start (hts : ∀ w ∈ lw_tbl, w.before args s = true) (hgv : gvC.before args s = true) {b9 L : Nat} {xs : Nat → Int32} (hX : va_X b9 L xs s s.heap) (hbl : b9 < s.heap.size) : ∃ E : Ev, eB E = s.heap.size ∧ EV E s s.heap ∧ HT E (hp0 (eE E)) s.heap ∧ eS E = (b9, L, xs) := by
  have hb : ∀ w ∈ BG, w.before args s = true := fun w hw => hts w (bg_tbl hw)
  have hg := flat_of_before _ hgv
  obtain ⟨D, hD⟩ := EV_cls hts
  obtain ⟨A, hA⟩ := EV_arr hts
  obtain ⟨a, ce, r1, r2, r3, r4, r5⟩ := EV_row hA (hg _ g_ex) (hg _ g_le)
  obtain ⟨mi, hmi⟩ := va_Mi.of (s := s) (args := args) (g_mi.elim (fun h => hts _ h) (fun h => hg _ h))
  have hal : a < s.heap.size := (Array.getElem?_eq_some_iff.mp r2).1
  have hB : ∀ q : Nat, q < s.heap.size → ¬ bsA (D, A, s.heap.size, a, mi, b9, L, xs) q := fun q hq z => Nat.not_le.mpr hq z
  refine ⟨(D, A, s.heap.size, a, mi, b9, L, xs), rfl, ⟨⟨hD, hA⟩, va_Zref (hts _ t_81) (hb _ w_40) r1 hB, vx_Zqof (hts _ t_180) (hb _ w_42) (hg _ g_us) hB, vx_Zqof (hts _ t_182) (hb _ w_42) (hg _ g_ss) hB, fun q hq => ?_, fun q hq => va_Nw.of rfl (hts _ (t_cas q hq)), fun q hq => va_Nc.of (hg _ (g_ncs q hq)), fun q hq => va_AO.of (hts _ (t_aos q hq)), ⟨va_Nw.of rfl (hts _ t_97), fun y hy => va_Nw.of rfl (hts _ (t_dcs y hy))⟩, va_Dc.of (hts _ t_788), hmi, hX, hbl, hbl⟩, ?_, rfl⟩
  · obtain ⟨x, c, cA, kA, q1, -⟩ := Cond.exactly_spec (hg _ (g_str q hq))
    exact ⟨x, vk_R.of (hts _ (t_str q hq)) q1⟩
  · intro b hb0
    have e : hT (hp0 a) b = if b = a then 27 else 0 := rfl
    have hba : b = a := by
      by_cases z : b = a
      · exact z
      · exact absurd (e.trans (if_neg z)) hb0
    have h27 : hT (hp0 a) b = 27 := e.trans (if_pos hba)
    refine ⟨fun z => absurd h27 z, fun _ => ⟨?_, ce, ?_, r3, r4, r5⟩, fun z => absurd h27 z⟩
    · rw [hba]; exact hal
    · rw [hba]; exact r2
end ST
