/-! the law's cases -/
theorem a_S {E : Ev} {p : Program} {l : Launch} {e : Env} {R : Room} {s : State} {m : MethodId} {args : Array Value} {below : List Frame} {meth : Method} {c : Code} {nL : Nat} {Q : State → Prop} {cc : ByteArray} {own nm : String} {ret : Option FieldType} {tb : List ExceptionTableEntry} {h : Hp} {cells slots pc : Nat} {lv : List (Nat × Value)} {st : List Value} (C : CX E p l s m args meth c cc nL own nm ret tb) {b L : Nat} {xs : Nat → Int32} {i : Int32} (hX : va_X b L xs s s.heap) (hbl : b < s.heap.size) (hb : b < eB E) {j : Nat} (hi : i = nI j) (hj : j < 2147483648) (hn : j < L) (hdg : decode cc pc = .ok (.iaload, 1))
    (kk : WS E p l e R s m args below meth c nL Q h cells slots (pc + 1) lv (.int (xs j) :: st)) : WS E p l e R s m args below meth c nL Q h cells slots pc lv (.int i :: .ref b :: st) := by
  subst hi
  refine r_sld C hX hbl hb (in_nI hj hn) hdg ?_
  rw [nI_clamp (by omega)]
  exact kk
def wp_law0 (dE : Nat) (L : Nat) (xs : Nat → Int32) (mc ms : Nat) (h : Hp) (x m9 o : Nat) (i : Int32) (cc ss : Nat) (J : Hp → Nat → Nat → Prop) : Prop :=
(∃ j1 : Nat, i + (1 : Int32) = nI j1 ∧ j1 < 2147483648 ∧ j1 < L ∧
 (∃ j2 : Nat, i + (2 : Int32) = nI j2 ∧ j2 < 2147483648 ∧ j2 < L ∧
 (∃ j3 : Nat, i + (3 : Int32) = nI j3 ∧ j3 < 2147483648 ∧ j3 < L ∧
 (∃ j4 : Nat, i + (4 : Int32) = nI j4 ∧ j4 < 2147483648 ∧ j4 < L ∧
 (∃ j5 : Nat, i + (5 : Int32) = nI j5 ∧ j5 < 2147483648 ∧ j5 < L ∧
 (∀ J199 : Int32 → Prop, (∀ (t199_0 : Int32), (cc + 2 ≤ mc ∧
 (ss + 12 ≤ ms ∧
 wp_L_kind h x (xs j1) (xs j2) (xs j3) (xs j4) t199_0 (fun x6 h6 =>
 (∃ j8 : Nat, i + (1 : Int32) = nI j8 ∧ j8 < 2147483648 ∧ j8 < L ∧
 (∃ j9 : Nat, i + (2 : Int32) = nI j9 ∧ j9 < 2147483648 ∧ j9 < L ∧
 (∃ j10 : Nat, i + (3 : Int32) = nI j10 ∧ j10 < 2147483648 ∧ j10 < L ∧
 (∃ j11 : Nat, i + (4 : Int32) = nI j11 ∧ j11 < 2147483648 ∧ j11 < L ∧
 (∃ j12 : Nat, i + (5 : Int32) = nI j12 ∧ j12 < 2147483648 ∧ j12 < L ∧
 (∀ J243 : Int32 → Prop, (∀ (t243_0 : Int32), (hT h6 m9 = 8 ∧
 wp_X6_kind h6 m9 (xs j8) (xs j9) (xs j10) (xs j11) t243_0 (fun h13 =>
 (hT h13 m9 = 8 ∧
 wp_X6_thrown h13 m9 (fun x15 =>
 ((x15 = x6 →
 J h13 (cc + 2 + 0 + 0) (ss + 12 + 0 + 0)) ∧ (¬ (x15 = x6) →
 False)))))) → J243 t243_0) →
 (((xs j12) = 0 →
 J243 (0 : Int32)) ∧ (¬ ((xs j12) = 0) →
 J243 (1 : Int32)))))))))))) → J199 t199_0) →
 (((xs j5) = 0 →
 J199 (0 : Int32)) ∧ (¬ ((xs j5) = 0) →
 J199 (1 : Int32)))))))))
set_option maxHeartbeats 4000000 in
set_option maxRecDepth 100000 in
theorem mc_law0 {E : Ev} {p : Program} {l : Launch} {e : Env} {s : State} {m : MethodId} {args : Array Value} {below : List Frame} {meth : Method} {c : Code} {Q : State → Prop} {nm : String} {tb : List ExceptionTableEntry} (C : CX E p l s m args meth c cL_law 7 "TaktLineLaw" nm (some .boolean) tb) (hl : l.stackTraces = false) {b L : Nat} {xs : Nat → Int32} (hX : va_X b L xs s s.heap) (hbl : b < s.heap.size) (hbb : b < eB E) {h : Hp} {x m9 o : Nat} {i : Int32} {cc ss : Nat} (bc : cc ≤ 601024) (bs : ss ≤ 7293034) (hw : wp_law0 (eE E) L xs 601024 7293034 h x m9 o i cc ss (fun h_ c_ s_ => c_ ≤ 601024 → s_ ≤ 7293034 → WS E p l e room_1 s m args below meth c 7 Q h_ c_ s_ 1557 [(0, .ref b), (1, .ref x), (2, .ref m9), (3, .ref o), (4, .int i)] [])) : WS E p l e room_1 s m args below meth c 7 Q h cc ss 160 [(0, .ref b), (1, .ref x), (2, .ref m9), (3, .ref o), (4, .int i)] [] := by
  unfold wp_law0 at hw
  refine r_aload_n C dL_law_160 rfl rfl ?_
  refine r_aload_n C dL_law_161 rfl rfl ?_
  refine r_iload C dL_law_162 rfl ?_
  refine r_iconst (v := (1 : Int32)) C dL_law_164 (by decide) ?_
  refine r_iadd C dL_law_165 ?_
  obtain ⟨j1, f1, l1, k1, hw⟩ := hw
  refine a_S C hX hbl hbb f1 l1 k1 dL_law_166 ?_
  refine r_aload_n C dL_law_167 rfl rfl ?_
  refine r_iload C dL_law_168 rfl ?_
  refine r_iconst (v := (2 : Int32)) C dL_law_170 (by decide) ?_
  refine r_iadd C dL_law_171 ?_
  obtain ⟨j2, f2, l2, k2, hw⟩ := hw
  refine a_S C hX hbl hbb f2 l2 k2 dL_law_172 ?_
  refine r_aload_n C dL_law_173 rfl rfl ?_
  refine r_iload C dL_law_174 rfl ?_
  refine r_iconst (v := (3 : Int32)) C dL_law_176 (by decide) ?_
  refine r_iadd C dL_law_177 ?_
  obtain ⟨j3, f3, l3, k3, hw⟩ := hw
  refine a_S C hX hbl hbb f3 l3 k3 dL_law_178 ?_
  refine r_aload_n C dL_law_179 rfl rfl ?_
  refine r_iload C dL_law_180 rfl ?_
  refine r_iconst (v := (4 : Int32)) C dL_law_182 (by decide) ?_
  refine r_iadd C dL_law_183 ?_
  obtain ⟨j4, f4, l4, k4, hw⟩ := hw
  refine a_S C hX hbl hbb f4 l4 k4 dL_law_184 ?_
  refine r_aload_n C dL_law_185 rfl rfl ?_
  refine r_iload C dL_law_186 rfl ?_
  refine r_iconst (v := (5 : Int32)) C dL_law_188 (by decide) ?_
  refine r_iadd C dL_law_189 ?_
  obtain ⟨j5, f5, l5, k5, hw⟩ := hw
  refine a_S C hX hbl hbb f5 l5 k5 dL_law_190 ?_
  replace hw := hw (fun (t199_0 : Int32) => WS E p l e room_1 s m args below meth c 7 Q h cc ss 199 [(0, .ref b), (1, .ref x), (2, .ref m9), (3, .ref o), (4, .int i)] [.int t199_0, .int (xs j4), .int (xs j3), .int (xs j2), .int (xs j1), .ref x]) (by
    intro t199_0 hv
    replace hw := hv
    clear hv
    obtain ⟨b7, d7, hw⟩ := hw
    refine r_callSW (As := [.ref x, .int (xs j1), .int (xs j2), .int (xs j3), .int (xs j4), .int t199_0]) (st := []) C (m_L_kind hl hw) v_L_kind w_210 rfl ⟨leb rfl, leb rfl⟩ ⟨b7, d7⟩ rfl (leb rfl) dL_law_199 (fun _ _ z => z.elim) (kkI (K := fun hK sK => WS E p l e room_1 s m args below meth c 7 Q hK (cc + 2) (ss + 12) (199 + 3) [(0, .ref b), (1, .ref x), (2, .ref m9), (3, .ref o), (4, .int i)] sK) (fun x6 h6 hv => ?_))
    replace hw := hv
    clear hv
    refine r_istore C dL_law_202 (by decide) [(0, .ref b), (1, .ref x), (2, .ref m9), (3, .ref o), (4, .int i), (5, .int x6)] ⟨rfl, rfl, rfl, rfl, rfl, rfl, trivial⟩ ?_
    refine r_aload_n C dL_law_204 rfl rfl ?_
    refine r_aload_n C dL_law_205 rfl rfl ?_
    refine r_iload C dL_law_206 rfl ?_
    refine r_iconst (v := (1 : Int32)) C dL_law_208 (by decide) ?_
    refine r_iadd C dL_law_209 ?_
    obtain ⟨j8, f8, l8, k8, hw⟩ := hw
    refine a_S C hX hbl hbb f8 l8 k8 dL_law_210 ?_
    refine r_aload_n C dL_law_211 rfl rfl ?_
    refine r_iload C dL_law_212 rfl ?_
    refine r_iconst (v := (2 : Int32)) C dL_law_214 (by decide) ?_
    refine r_iadd C dL_law_215 ?_
    obtain ⟨j9, f9, l9, k9, hw⟩ := hw
    refine a_S C hX hbl hbb f9 l9 k9 dL_law_216 ?_
    refine r_aload_n C dL_law_217 rfl rfl ?_
    refine r_iload C dL_law_218 rfl ?_
    refine r_iconst (v := (3 : Int32)) C dL_law_220 (by decide) ?_
    refine r_iadd C dL_law_221 ?_
    obtain ⟨j10, f10, l10, k10, hw⟩ := hw
    refine a_S C hX hbl hbb f10 l10 k10 dL_law_222 ?_
    refine r_aload_n C dL_law_223 rfl rfl ?_
    refine r_iload C dL_law_224 rfl ?_
    refine r_iconst (v := (4 : Int32)) C dL_law_226 (by decide) ?_
    refine r_iadd C dL_law_227 ?_
    obtain ⟨j11, f11, l11, k11, hw⟩ := hw
    refine a_S C hX hbl hbb f11 l11 k11 dL_law_228 ?_
    refine r_aload_n C dL_law_229 rfl rfl ?_
    refine r_iload C dL_law_230 rfl ?_
    refine r_iconst (v := (5 : Int32)) C dL_law_232 (by decide) ?_
    refine r_iadd C dL_law_233 ?_
    obtain ⟨j12, f12, l12, k12, hw⟩ := hw
    refine a_S C hX hbl hbb f12 l12 k12 dL_law_234 ?_
    replace hw := hw (fun (t243_0 : Int32) => WS E p l e room_1 s m args below meth c 7 Q h6 (cc + 2) (ss + 12) 243 [(0, .ref b), (1, .ref x), (2, .ref m9), (3, .ref o), (4, .int i), (5, .int x6)] [.int t243_0, .int (xs j11), .int (xs j10), .int (xs j9), .int (xs j8), .ref m9]) (by
      intro t243_0 hv
      replace hw := hv
      clear hv
      obtain ⟨g14, hw⟩ := hw
      refine r_callV (As := [.int (xs j8), .int (xs j9), .int (xs j10), .int (xs j11), .int t243_0]) (st := []) C (m_X6_kind hl hw) v_X6_kind w_909 K8 g14 (by decide) ob8 rfl ⟨leb rfl, leb rfl⟩ ⟨b7, d7⟩ rfl (leb rfl) dL_law_243 (fun _ _ z => z.elim) (kkV (K := fun hK sK => WS E p l e room_1 s m args below meth c 7 Q hK (cc + 2 + 0) (ss + 12 + 0) (243 + 3) [(0, .ref b), (1, .ref x), (2, .ref m9), (3, .ref o), (4, .int i), (5, .int x6)] sK) (fun h13 hv => ?_))
      replace hw := hv
      clear hv
      refine r_aload_n C dL_law_246 rfl rfl ?_
      obtain ⟨g16, hw⟩ := hw
      refine r_callV (As := []) (st := []) C (m_X6_thrown hl hw) v_X6_thrown w_905 K8 g16 (by decide) ob8 rfl ⟨leb rfl, leb rfl⟩ ⟨b7, d7⟩ rfl (leb rfl) dL_law_247 (fun _ _ z => z.elim) (kpI (K := fun hK sK => WS E p l e room_1 s m args below meth c 7 Q hK (cc + 2 + 0 + 0) (ss + 12 + 0 + 0) (247 + 3) [(0, .ref b), (1, .ref x), (2, .ref m9), (3, .ref o), (4, .int i), (5, .int x6)] sK) (fun x15 hv => ?_))
      replace hw := hv
      clear hv
      refine r_iload C dL_law_250 rfl ?_
      refine r_icmp_eq C 257 dL_law_252 (by decide) (fun z17 => ?_) (fun z17 => ?_)
      · replace hw := hw.1 z17
        refine r_goto C 1557 dL_law_257 (by decide) ?_
        exact (r_subk (hw b7 d7) ⟨rfl, rfl, rfl, rfl, rfl, trivial⟩)
      · replace hw := hw.2 z17
        refine r_iconst (v := (0 : Int32)) C dL_law_255 (by decide) ?_
        exact hw.elim
      )
    refine r_if_eq C 242 dL_law_235 (by decide) (fun z18 => ?_) (fun z18 => ?_)
    · replace hw := hw.1 z18
      refine r_iconst (v := (0 : Int32)) C dL_law_242 (by decide) ?_
      exact (r_subk hw ⟨rfl, rfl, rfl, rfl, rfl, rfl, trivial⟩)
    · replace hw := hw.2 z18
      refine r_iconst (v := (1 : Int32)) C dL_law_238 (by decide) ?_
      refine r_goto C 243 dL_law_239 (by decide) ?_
      exact (r_subk hw ⟨rfl, rfl, rfl, rfl, rfl, rfl, trivial⟩)
    )
  refine r_if_eq C 198 dL_law_191 (by decide) (fun z19 => ?_) (fun z19 => ?_)
  · replace hw := hw.1 z19
    refine r_iconst (v := (0 : Int32)) C dL_law_198 (by decide) ?_
    exact (r_subk hw ⟨rfl, rfl, rfl, rfl, rfl, trivial⟩)
  · replace hw := hw.2 z19
    refine r_iconst (v := (1 : Int32)) C dL_law_194 (by decide) ?_
    refine r_goto C 199 dL_law_195 (by decide) ?_
    exact (r_subk hw ⟨rfl, rfl, rfl, rfl, rfl, trivial⟩)

def wp_law1 (dE : Nat) (L : Nat) (xs : Nat → Int32) (mc ms : Nat) (h : Hp) (x m9 o : Nat) (i : Int32) (cc ss : Nat) (J : Hp → Nat → Nat → Prop) : Prop :=
(∃ j1 : Nat, i + (1 : Int32) = nI j1 ∧ j1 < 2147483648 ∧ j1 < L ∧
 (∃ j2 : Nat, i + (2 : Int32) = nI j2 ∧ j2 < 2147483648 ∧ j2 < L ∧
 (∃ j3 : Nat, i + (3 : Int32) = nI j3 ∧ j3 < 2147483648 ∧ j3 < L ∧
 (cc + 3 ≤ mc ∧
 (ss + 60 ≤ ms ∧
 wp_L_lot dE h x (xs j1) (xs j2) (xs j3) o (fun x4 h4 =>
 (∃ j6 : Nat, i + (1 : Int32) = nI j6 ∧ j6 < 2147483648 ∧ j6 < L ∧
 (∃ j7 : Nat, i + (2 : Int32) = nI j7 ∧ j7 < 2147483648 ∧ j7 < L ∧
 (∃ j8 : Nat, i + (3 : Int32) = nI j8 ∧ j8 < 2147483648 ∧ j8 < L ∧
 (hT h4 m9 = 8 ∧
 wp_X6_lot h4 m9 (xs j6) (xs j7) (xs j8) (fun x9 h9 =>
 (hT h9 m9 = 8 ∧
 wp_X6_thrown h9 m9 (fun x11 =>
 ((x11 = x4 →
 (∀ J337 : Prop, ((J h9 (cc + 3 + 0 + 0) (ss + 60 + 0 + 0)) → J337) →
 ((x4 = 0 →
 (hT h9 o = 22 ∧
 (0 < hL h9 o ∧
 (∃ x17 : Int64, hJ h9 o 0 = x17 ∧
 (((lg_cmp x17 x9.toInt64) = 0 →
 J337) ∧ (¬ ((lg_cmp x17 x9.toInt64) = 0) →
 False)))))) ∧ (¬ (x4 = 0) →
 J337)))) ∧ (¬ (x11 = x4) →
 False)))))))))))))))
set_option maxHeartbeats 4000000 in
set_option maxRecDepth 100000 in
theorem mc_law1 {E : Ev} {p : Program} {l : Launch} {e : Env} {s : State} {m : MethodId} {args : Array Value} {below : List Frame} {meth : Method} {c : Code} {Q : State → Prop} {nm : String} {tb : List ExceptionTableEntry} (C : CX E p l s m args meth c cL_law 7 "TaktLineLaw" nm (some .boolean) tb) (hl : l.stackTraces = false) {b L : Nat} {xs : Nat → Int32} (hX : va_X b L xs s s.heap) (hbl : b < s.heap.size) (hbb : b < eB E) {h : Hp} {x m9 o : Nat} {i : Int32} {cc ss : Nat} (bc : cc ≤ 601024) (bs : ss ≤ 7293034) (hw : wp_law1 (eE E) L xs 601024 7293034 h x m9 o i cc ss (fun h_ c_ s_ => c_ ≤ 601024 → s_ ≤ 7293034 → WS E p l e room_1 s m args below meth c 7 Q h_ c_ s_ 1557 [(0, .ref b), (1, .ref x), (2, .ref m9), (3, .ref o), (4, .int i)] [])) : WS E p l e room_1 s m args below meth c 7 Q h cc ss 260 [(0, .ref b), (1, .ref x), (2, .ref m9), (3, .ref o), (4, .int i)] [] := by
  unfold wp_law1 at hw
  refine r_aload_n C dL_law_260 rfl rfl ?_
  refine r_aload_n C dL_law_261 rfl rfl ?_
  refine r_iload C dL_law_262 rfl ?_
  refine r_iconst (v := (1 : Int32)) C dL_law_264 (by decide) ?_
  refine r_iadd C dL_law_265 ?_
  obtain ⟨j1, f1, l1, k1, hw⟩ := hw
  refine a_S C hX hbl hbb f1 l1 k1 dL_law_266 ?_
  refine r_aload_n C dL_law_267 rfl rfl ?_
  refine r_iload C dL_law_268 rfl ?_
  refine r_iconst (v := (2 : Int32)) C dL_law_270 (by decide) ?_
  refine r_iadd C dL_law_271 ?_
  obtain ⟨j2, f2, l2, k2, hw⟩ := hw
  refine a_S C hX hbl hbb f2 l2 k2 dL_law_272 ?_
  refine r_aload_n C dL_law_273 rfl rfl ?_
  refine r_iload C dL_law_274 rfl ?_
  refine r_iconst (v := (3 : Int32)) C dL_law_276 (by decide) ?_
  refine r_iadd C dL_law_277 ?_
  obtain ⟨j3, f3, l3, k3, hw⟩ := hw
  refine a_S C hX hbl hbb f3 l3 k3 dL_law_278 ?_
  refine r_aload_n C dL_law_279 rfl rfl ?_
  obtain ⟨b5, d5, hw⟩ := hw
  refine r_callSW (As := [.ref x, .int (xs j1), .int (xs j2), .int (xs j3), .ref o]) (st := []) C (m_L_lot hl hw) v_L_lot w_337 rfl ⟨leb rfl, leb rfl⟩ ⟨b5, d5⟩ rfl (leb rfl) dL_law_280 (fun _ _ z => z.elim) (kkI (K := fun hK sK => WS E p l e room_1 s m args below meth c 7 Q hK (cc + 3) (ss + 60) (280 + 3) [(0, .ref b), (1, .ref x), (2, .ref m9), (3, .ref o), (4, .int i)] sK) (fun x4 h4 hv => ?_))
  replace hw := hv
  clear hv
  refine r_istore C dL_law_283 (by decide) [(0, .ref b), (1, .ref x), (2, .ref m9), (3, .ref o), (4, .int i), (5, .int x4)] ⟨rfl, rfl, rfl, rfl, rfl, rfl, trivial⟩ ?_
  refine r_aload_n C dL_law_285 rfl rfl ?_
  refine r_aload_n C dL_law_286 rfl rfl ?_
  refine r_iload C dL_law_287 rfl ?_
  refine r_iconst (v := (1 : Int32)) C dL_law_289 (by decide) ?_
  refine r_iadd C dL_law_290 ?_
  obtain ⟨j6, f6, l6, k6, hw⟩ := hw
  refine a_S C hX hbl hbb f6 l6 k6 dL_law_291 ?_
  refine r_aload_n C dL_law_292 rfl rfl ?_
  refine r_iload C dL_law_293 rfl ?_
  refine r_iconst (v := (2 : Int32)) C dL_law_295 (by decide) ?_
  refine r_iadd C dL_law_296 ?_
  obtain ⟨j7, f7, l7, k7, hw⟩ := hw
  refine a_S C hX hbl hbb f7 l7 k7 dL_law_297 ?_
  refine r_aload_n C dL_law_298 rfl rfl ?_
  refine r_iload C dL_law_299 rfl ?_
  refine r_iconst (v := (3 : Int32)) C dL_law_301 (by decide) ?_
  refine r_iadd C dL_law_302 ?_
  obtain ⟨j8, f8, l8, k8, hw⟩ := hw
  refine a_S C hX hbl hbb f8 l8 k8 dL_law_303 ?_
  obtain ⟨g10, hw⟩ := hw
  refine r_callV (As := [.int (xs j6), .int (xs j7), .int (xs j8)]) (st := []) C (m_X6_lot hl hw) v_X6_lot w_923 K8 g10 (by decide) ob8 rfl ⟨leb rfl, leb rfl⟩ ⟨b5, d5⟩ rfl (leb rfl) dL_law_304 (fun _ _ z => z.elim) (kkI (K := fun hK sK => WS E p l e room_1 s m args below meth c 7 Q hK (cc + 3 + 0) (ss + 60 + 0) (304 + 3) [(0, .ref b), (1, .ref x), (2, .ref m9), (3, .ref o), (4, .int i), (5, .int x4)] sK) (fun x9 h9 hv => ?_))
  replace hw := hv
  clear hv
  refine r_istore C dL_law_307 (by decide) [(0, .ref b), (1, .ref x), (2, .ref m9), (3, .ref o), (4, .int i), (5, .int x4), (6, .int x9)] ⟨rfl, rfl, rfl, rfl, rfl, rfl, rfl, trivial⟩ ?_
  refine r_aload_n C dL_law_309 rfl rfl ?_
  obtain ⟨g12, hw⟩ := hw
  refine r_callV (As := []) (st := []) C (m_X6_thrown hl hw) v_X6_thrown w_905 K8 g12 (by decide) ob8 rfl ⟨leb rfl, leb rfl⟩ ⟨b5, d5⟩ rfl (leb rfl) dL_law_310 (fun _ _ z => z.elim) (kpI (K := fun hK sK => WS E p l e room_1 s m args below meth c 7 Q hK (cc + 3 + 0 + 0) (ss + 60 + 0 + 0) (310 + 3) [(0, .ref b), (1, .ref x), (2, .ref m9), (3, .ref o), (4, .int i), (5, .int x4), (6, .int x9)] sK) (fun x11 hv => ?_))
  replace hw := hv
  clear hv
  refine r_iload C dL_law_313 rfl ?_
  refine r_icmp_eq C 320 dL_law_315 (by decide) (fun z13 => ?_) (fun z13 => ?_)
  · replace hw := hw.1 z13
    refine r_iload C dL_law_320 rfl ?_
    replace hw := hw (WS E p l e room_1 s m args below meth c 7 Q h9 (cc + 3 + 0 + 0) (ss + 60 + 0 + 0) 337 [(0, .ref b), (1, .ref x), (2, .ref m9), (3, .ref o), (4, .int i)] []) (by
      intro hv
      replace hw := hv
      clear hv
      refine r_goto C 1557 dL_law_337 (by decide) ?_
      exact (r_subk (hw b5 d5) ⟨rfl, rfl, rfl, rfl, rfl, trivial⟩)
      )
    refine r_if_ne C 337 dL_law_322 (by decide) (fun z14 => ?_) (fun z14 => ?_)
    · replace hw := hw.2 z14
      exact (r_subk hw ⟨rfl, rfl, rfl, rfl, rfl, trivial⟩)
    · replace hw := hw.1 z14
      refine r_aload_n C dL_law_325 rfl rfl ?_
      refine r_iconst (v := (0 : Int32)) C dL_law_326 (by decide) ?_
      obtain ⟨g15, hw⟩ := hw
      obtain ⟨l16, hw⟩ := hw
      obtain ⟨x17, e17, hw⟩ := hw
      refine a_J C g15 (j := 0) rfl (by decide) l16 e17 dL_law_327 ?_
      refine r_iload C dL_law_328 rfl ?_
      refine r_i2l C dL_law_330 ?_
      refine r_lcmp C dL_law_331 ?_
      refine r_if_eq C 337 dL_law_332 (by decide) (fun z18 => ?_) (fun z18 => ?_)
      · replace hw := hw.1 z18
        exact (r_subk hw ⟨rfl, rfl, rfl, rfl, rfl, trivial⟩)
      · replace hw := hw.2 z18
        refine r_iconst (v := (0 : Int32)) C dL_law_335 (by decide) ?_
        exact hw.elim
  · replace hw := hw.2 z13
    refine r_iconst (v := (0 : Int32)) C dL_law_318 (by decide) ?_
    exact hw.elim

def wp_law2 (dE : Nat) (L : Nat) (xs : Nat → Int32) (mc ms : Nat) (h : Hp) (x m9 o : Nat) (i : Int32) (cc ss : Nat) (J : Hp → Nat → Nat → Prop) : Prop :=
(∃ j1 : Nat, i + (1 : Int32) = nI j1 ∧ j1 < 2147483648 ∧ j1 < L ∧
 (cc + 2 ≤ mc ∧
 (ss + 12 ≤ ms ∧
 wp_L_recall h x (xs j1) o (fun x2 h2 =>
 (∃ j4 : Nat, i + (1 : Int32) = nI j4 ∧ j4 < 2147483648 ∧ j4 < L ∧
 (hT h2 m9 = 8 ∧
 wp_X6_recall h2 m9 (xs j4) (fun x5 h5 =>
 (hT h5 m9 = 8 ∧
 wp_X6_thrown h5 m9 (fun x7 =>
 ((x7 = x2 →
 (∀ J393 : Prop, ((J h5 (cc + 2 + 0 + 0) (ss + 12 + 0 + 0)) → J393) →
 ((x2 = 0 →
 (hT h5 o = 22 ∧
 (0 < hL h5 o ∧
 (∃ x13 : Int64, hJ h5 o 0 = x13 ∧
 (((lg_cmp x13 x5.toInt64) = 0 →
 J393) ∧ (¬ ((lg_cmp x13 x5.toInt64) = 0) →
 False)))))) ∧ (¬ (x2 = 0) →
 J393)))) ∧ (¬ (x7 = x2) →
 False)))))))))))
set_option maxHeartbeats 4000000 in
set_option maxRecDepth 100000 in
theorem mc_law2 {E : Ev} {p : Program} {l : Launch} {e : Env} {s : State} {m : MethodId} {args : Array Value} {below : List Frame} {meth : Method} {c : Code} {Q : State → Prop} {nm : String} {tb : List ExceptionTableEntry} (C : CX E p l s m args meth c cL_law 7 "TaktLineLaw" nm (some .boolean) tb) (hl : l.stackTraces = false) {b L : Nat} {xs : Nat → Int32} (hX : va_X b L xs s s.heap) (hbl : b < s.heap.size) (hbb : b < eB E) {h : Hp} {x m9 o : Nat} {i : Int32} {cc ss : Nat} (bc : cc ≤ 601024) (bs : ss ≤ 7293034) (hw : wp_law2 (eE E) L xs 601024 7293034 h x m9 o i cc ss (fun h_ c_ s_ => c_ ≤ 601024 → s_ ≤ 7293034 → WS E p l e room_1 s m args below meth c 7 Q h_ c_ s_ 1557 [(0, .ref b), (1, .ref x), (2, .ref m9), (3, .ref o), (4, .int i)] [])) : WS E p l e room_1 s m args below meth c 7 Q h cc ss 340 [(0, .ref b), (1, .ref x), (2, .ref m9), (3, .ref o), (4, .int i)] [] := by
  unfold wp_law2 at hw
  refine r_aload_n C dL_law_340 rfl rfl ?_
  refine r_aload_n C dL_law_341 rfl rfl ?_
  refine r_iload C dL_law_342 rfl ?_
  refine r_iconst (v := (1 : Int32)) C dL_law_344 (by decide) ?_
  refine r_iadd C dL_law_345 ?_
  obtain ⟨j1, f1, l1, k1, hw⟩ := hw
  refine a_S C hX hbl hbb f1 l1 k1 dL_law_346 ?_
  refine r_aload_n C dL_law_347 rfl rfl ?_
  obtain ⟨b3, d3, hw⟩ := hw
  refine r_callSW (As := [.ref x, .int (xs j1), .ref o]) (st := []) C (m_L_recall hl hw) v_L_recall w_432 rfl ⟨leb rfl, leb rfl⟩ ⟨b3, d3⟩ rfl (leb rfl) dL_law_348 (fun _ _ z => z.elim) (kkI (K := fun hK sK => WS E p l e room_1 s m args below meth c 7 Q hK (cc + 2) (ss + 12) (348 + 3) [(0, .ref b), (1, .ref x), (2, .ref m9), (3, .ref o), (4, .int i)] sK) (fun x2 h2 hv => ?_))
  replace hw := hv
  clear hv
  refine r_istore C dL_law_351 (by decide) [(0, .ref b), (1, .ref x), (2, .ref m9), (3, .ref o), (4, .int i), (5, .int x2)] ⟨rfl, rfl, rfl, rfl, rfl, rfl, trivial⟩ ?_
  refine r_aload_n C dL_law_353 rfl rfl ?_
  refine r_aload_n C dL_law_354 rfl rfl ?_
  refine r_iload C dL_law_355 rfl ?_
  refine r_iconst (v := (1 : Int32)) C dL_law_357 (by decide) ?_
  refine r_iadd C dL_law_358 ?_
  obtain ⟨j4, f4, l4, k4, hw⟩ := hw
  refine a_S C hX hbl hbb f4 l4 k4 dL_law_359 ?_
  obtain ⟨g6, hw⟩ := hw
  refine r_callV (As := [.int (xs j4)]) (st := []) C (m_X6_recall hl hw) v_X6_recall w_927 K8 g6 (by decide) ob8 rfl ⟨leb rfl, leb rfl⟩ ⟨b3, d3⟩ rfl (leb rfl) dL_law_360 (fun _ _ z => z.elim) (kkI (K := fun hK sK => WS E p l e room_1 s m args below meth c 7 Q hK (cc + 2 + 0) (ss + 12 + 0) (360 + 3) [(0, .ref b), (1, .ref x), (2, .ref m9), (3, .ref o), (4, .int i), (5, .int x2)] sK) (fun x5 h5 hv => ?_))
  replace hw := hv
  clear hv
  refine r_istore C dL_law_363 (by decide) [(0, .ref b), (1, .ref x), (2, .ref m9), (3, .ref o), (4, .int i), (5, .int x2), (6, .int x5)] ⟨rfl, rfl, rfl, rfl, rfl, rfl, rfl, trivial⟩ ?_
  refine r_aload_n C dL_law_365 rfl rfl ?_
  obtain ⟨g8, hw⟩ := hw
  refine r_callV (As := []) (st := []) C (m_X6_thrown hl hw) v_X6_thrown w_905 K8 g8 (by decide) ob8 rfl ⟨leb rfl, leb rfl⟩ ⟨b3, d3⟩ rfl (leb rfl) dL_law_366 (fun _ _ z => z.elim) (kpI (K := fun hK sK => WS E p l e room_1 s m args below meth c 7 Q hK (cc + 2 + 0 + 0) (ss + 12 + 0 + 0) (366 + 3) [(0, .ref b), (1, .ref x), (2, .ref m9), (3, .ref o), (4, .int i), (5, .int x2), (6, .int x5)] sK) (fun x7 hv => ?_))
  replace hw := hv
  clear hv
  refine r_iload C dL_law_369 rfl ?_
  refine r_icmp_eq C 376 dL_law_371 (by decide) (fun z9 => ?_) (fun z9 => ?_)
  · replace hw := hw.1 z9
    refine r_iload C dL_law_376 rfl ?_
    replace hw := hw (WS E p l e room_1 s m args below meth c 7 Q h5 (cc + 2 + 0 + 0) (ss + 12 + 0 + 0) 393 [(0, .ref b), (1, .ref x), (2, .ref m9), (3, .ref o), (4, .int i)] []) (by
      intro hv
      replace hw := hv
      clear hv
      refine r_goto C 1557 dL_law_393 (by decide) ?_
      exact (r_subk (hw b3 d3) ⟨rfl, rfl, rfl, rfl, rfl, trivial⟩)
      )
    refine r_if_ne C 393 dL_law_378 (by decide) (fun z10 => ?_) (fun z10 => ?_)
    · replace hw := hw.2 z10
      exact (r_subk hw ⟨rfl, rfl, rfl, rfl, rfl, trivial⟩)
    · replace hw := hw.1 z10
      refine r_aload_n C dL_law_381 rfl rfl ?_
      refine r_iconst (v := (0 : Int32)) C dL_law_382 (by decide) ?_
      obtain ⟨g11, hw⟩ := hw
      obtain ⟨l12, hw⟩ := hw
      obtain ⟨x13, e13, hw⟩ := hw
      refine a_J C g11 (j := 0) rfl (by decide) l12 e13 dL_law_383 ?_
      refine r_iload C dL_law_384 rfl ?_
      refine r_i2l C dL_law_386 ?_
      refine r_lcmp C dL_law_387 ?_
      refine r_if_eq C 393 dL_law_388 (by decide) (fun z14 => ?_) (fun z14 => ?_)
      · replace hw := hw.1 z14
        exact (r_subk hw ⟨rfl, rfl, rfl, rfl, rfl, trivial⟩)
      · replace hw := hw.2 z14
        refine r_iconst (v := (0 : Int32)) C dL_law_391 (by decide) ?_
        exact hw.elim
  · replace hw := hw.2 z9
    refine r_iconst (v := (0 : Int32)) C dL_law_374 (by decide) ?_
    exact hw.elim

def wp_law3 (dE : Nat) (L : Nat) (xs : Nat → Int32) (mc ms : Nat) (h : Hp) (x m9 o : Nat) (i : Int32) (cc ss : Nat) (J : Hp → Nat → Nat → Prop) : Prop :=
(∃ j1 : Nat, i + (1 : Int32) = nI j1 ∧ j1 < 2147483648 ∧ j1 < L ∧
 (cc + 1 ≤ mc ∧
 (ss + 6 ≤ ms ∧
 wp_L_units h x (xs j1) o (fun x2 h2 =>
 (∃ j4 : Nat, i + (1 : Int32) = nI j4 ∧ j4 < 2147483648 ∧ j4 < L ∧
 (hT h2 m9 = 8 ∧
 wp_X6_units h2 m9 (xs j4) (fun x5 h5 =>
 (hT h5 m9 = 8 ∧
 wp_X6_thrown h5 m9 (fun x7 =>
 ((x7 = x2 →
 (∀ J449 : Prop, ((J h5 (cc + 1 + 0 + 0) (ss + 6 + 0 + 0)) → J449) →
 ((x2 = 0 →
 (hT h5 o = 22 ∧
 (0 < hL h5 o ∧
 (∃ x13 : Int64, hJ h5 o 0 = x13 ∧
 (((lg_cmp x13 x5.toInt64) = 0 →
 J449) ∧ (¬ ((lg_cmp x13 x5.toInt64) = 0) →
 False)))))) ∧ (¬ (x2 = 0) →
 J449)))) ∧ (¬ (x7 = x2) →
 False)))))))))))
set_option maxHeartbeats 4000000 in
set_option maxRecDepth 100000 in
theorem mc_law3 {E : Ev} {p : Program} {l : Launch} {e : Env} {s : State} {m : MethodId} {args : Array Value} {below : List Frame} {meth : Method} {c : Code} {Q : State → Prop} {nm : String} {tb : List ExceptionTableEntry} (C : CX E p l s m args meth c cL_law 7 "TaktLineLaw" nm (some .boolean) tb) (hl : l.stackTraces = false) {b L : Nat} {xs : Nat → Int32} (hX : va_X b L xs s s.heap) (hbl : b < s.heap.size) (hbb : b < eB E) {h : Hp} {x m9 o : Nat} {i : Int32} {cc ss : Nat} (bc : cc ≤ 601024) (bs : ss ≤ 7293034) (hw : wp_law3 (eE E) L xs 601024 7293034 h x m9 o i cc ss (fun h_ c_ s_ => c_ ≤ 601024 → s_ ≤ 7293034 → WS E p l e room_1 s m args below meth c 7 Q h_ c_ s_ 1557 [(0, .ref b), (1, .ref x), (2, .ref m9), (3, .ref o), (4, .int i)] [])) : WS E p l e room_1 s m args below meth c 7 Q h cc ss 396 [(0, .ref b), (1, .ref x), (2, .ref m9), (3, .ref o), (4, .int i)] [] := by
  unfold wp_law3 at hw
  refine r_aload_n C dL_law_396 rfl rfl ?_
  refine r_aload_n C dL_law_397 rfl rfl ?_
  refine r_iload C dL_law_398 rfl ?_
  refine r_iconst (v := (1 : Int32)) C dL_law_400 (by decide) ?_
  refine r_iadd C dL_law_401 ?_
  obtain ⟨j1, f1, l1, k1, hw⟩ := hw
  refine a_S C hX hbl hbb f1 l1 k1 dL_law_402 ?_
  refine r_aload_n C dL_law_403 rfl rfl ?_
  obtain ⟨b3, d3, hw⟩ := hw
  refine r_callSW (As := [.ref x, .int (xs j1), .ref o]) (st := []) C (m_L_units hl hw) v_L_units w_449 rfl ⟨leb rfl, leb rfl⟩ ⟨b3, d3⟩ rfl (leb rfl) dL_law_404 (fun _ _ z => z.elim) (kkI (K := fun hK sK => WS E p l e room_1 s m args below meth c 7 Q hK (cc + 1) (ss + 6) (404 + 3) [(0, .ref b), (1, .ref x), (2, .ref m9), (3, .ref o), (4, .int i)] sK) (fun x2 h2 hv => ?_))
  replace hw := hv
  clear hv
  refine r_istore C dL_law_407 (by decide) [(0, .ref b), (1, .ref x), (2, .ref m9), (3, .ref o), (4, .int i), (5, .int x2)] ⟨rfl, rfl, rfl, rfl, rfl, rfl, trivial⟩ ?_
  refine r_aload_n C dL_law_409 rfl rfl ?_
  refine r_aload_n C dL_law_410 rfl rfl ?_
  refine r_iload C dL_law_411 rfl ?_
  refine r_iconst (v := (1 : Int32)) C dL_law_413 (by decide) ?_
  refine r_iadd C dL_law_414 ?_
  obtain ⟨j4, f4, l4, k4, hw⟩ := hw
  refine a_S C hX hbl hbb f4 l4 k4 dL_law_415 ?_
  obtain ⟨g6, hw⟩ := hw
  refine r_callV (As := [.int (xs j4)]) (st := []) C (m_X6_units hl hw) v_X6_units w_935 K8 g6 (by decide) ob8 rfl ⟨leb rfl, leb rfl⟩ ⟨b3, d3⟩ rfl (leb rfl) dL_law_416 (fun _ _ z => z.elim) (kkI (K := fun hK sK => WS E p l e room_1 s m args below meth c 7 Q hK (cc + 1 + 0) (ss + 6 + 0) (416 + 3) [(0, .ref b), (1, .ref x), (2, .ref m9), (3, .ref o), (4, .int i), (5, .int x2)] sK) (fun x5 h5 hv => ?_))
  replace hw := hv
  clear hv
  refine r_istore C dL_law_419 (by decide) [(0, .ref b), (1, .ref x), (2, .ref m9), (3, .ref o), (4, .int i), (5, .int x2), (6, .int x5)] ⟨rfl, rfl, rfl, rfl, rfl, rfl, rfl, trivial⟩ ?_
  refine r_aload_n C dL_law_421 rfl rfl ?_
  obtain ⟨g8, hw⟩ := hw
  refine r_callV (As := []) (st := []) C (m_X6_thrown hl hw) v_X6_thrown w_905 K8 g8 (by decide) ob8 rfl ⟨leb rfl, leb rfl⟩ ⟨b3, d3⟩ rfl (leb rfl) dL_law_422 (fun _ _ z => z.elim) (kpI (K := fun hK sK => WS E p l e room_1 s m args below meth c 7 Q hK (cc + 1 + 0 + 0) (ss + 6 + 0 + 0) (422 + 3) [(0, .ref b), (1, .ref x), (2, .ref m9), (3, .ref o), (4, .int i), (5, .int x2), (6, .int x5)] sK) (fun x7 hv => ?_))
  replace hw := hv
  clear hv
  refine r_iload C dL_law_425 rfl ?_
  refine r_icmp_eq C 432 dL_law_427 (by decide) (fun z9 => ?_) (fun z9 => ?_)
  · replace hw := hw.1 z9
    refine r_iload C dL_law_432 rfl ?_
    replace hw := hw (WS E p l e room_1 s m args below meth c 7 Q h5 (cc + 1 + 0 + 0) (ss + 6 + 0 + 0) 449 [(0, .ref b), (1, .ref x), (2, .ref m9), (3, .ref o), (4, .int i)] []) (by
      intro hv
      replace hw := hv
      clear hv
      refine r_goto C 1557 dL_law_449 (by decide) ?_
      exact (r_subk (hw b3 d3) ⟨rfl, rfl, rfl, rfl, rfl, trivial⟩)
      )
    refine r_if_ne C 449 dL_law_434 (by decide) (fun z10 => ?_) (fun z10 => ?_)
    · replace hw := hw.2 z10
      exact (r_subk hw ⟨rfl, rfl, rfl, rfl, rfl, trivial⟩)
    · replace hw := hw.1 z10
      refine r_aload_n C dL_law_437 rfl rfl ?_
      refine r_iconst (v := (0 : Int32)) C dL_law_438 (by decide) ?_
      obtain ⟨g11, hw⟩ := hw
      obtain ⟨l12, hw⟩ := hw
      obtain ⟨x13, e13, hw⟩ := hw
      refine a_J C g11 (j := 0) rfl (by decide) l12 e13 dL_law_439 ?_
      refine r_iload C dL_law_440 rfl ?_
      refine r_i2l C dL_law_442 ?_
      refine r_lcmp C dL_law_443 ?_
      refine r_if_eq C 449 dL_law_444 (by decide) (fun z14 => ?_) (fun z14 => ?_)
      · replace hw := hw.1 z14
        exact (r_subk hw ⟨rfl, rfl, rfl, rfl, rfl, trivial⟩)
      · replace hw := hw.2 z14
        refine r_iconst (v := (0 : Int32)) C dL_law_447 (by decide) ?_
        exact hw.elim
  · replace hw := hw.2 z9
    refine r_iconst (v := (0 : Int32)) C dL_law_430 (by decide) ?_
    exact hw.elim

def wp_law4 (dE : Nat) (L : Nat) (xs : Nat → Int32) (mc ms : Nat) (h : Hp) (x m9 o : Nat) (i : Int32) (cc ss : Nat) (J : Hp → Nat → Nat → Prop) : Prop :=
(∃ j1 : Nat, i + (1 : Int32) = nI j1 ∧ j1 < 2147483648 ∧ j1 < L ∧
 (cc + 3 ≤ mc ∧
 (ss + 68 ≤ ms ∧
 wp_L_order dE h x (xs j1) o (fun x2 h2 =>
 (∃ j4 : Nat, i + (1 : Int32) = nI j4 ∧ j4 < 2147483648 ∧ j4 < L ∧
 (hT h2 m9 = 8 ∧
 wp_X6_order h2 m9 (xs j4) (fun x5 h5 =>
 (hT h5 m9 = 8 ∧
 wp_X6_thrown h5 m9 (fun x7 =>
 ((x7 = x2 →
 (∀ J505 : Prop, ((J h5 (cc + 3 + 0 + 0) (ss + 68 + 0 + 0)) → J505) →
 ((x2 = 0 →
 (hT h5 o = 22 ∧
 (0 < hL h5 o ∧
 (∃ x13 : Int64, hJ h5 o 0 = x13 ∧
 (((lg_cmp x13 x5.toInt64) = 0 →
 J505) ∧ (¬ ((lg_cmp x13 x5.toInt64) = 0) →
 False)))))) ∧ (¬ (x2 = 0) →
 J505)))) ∧ (¬ (x7 = x2) →
 False)))))))))))
set_option maxHeartbeats 4000000 in
set_option maxRecDepth 100000 in
theorem mc_law4 {E : Ev} {p : Program} {l : Launch} {e : Env} {s : State} {m : MethodId} {args : Array Value} {below : List Frame} {meth : Method} {c : Code} {Q : State → Prop} {nm : String} {tb : List ExceptionTableEntry} (C : CX E p l s m args meth c cL_law 7 "TaktLineLaw" nm (some .boolean) tb) (hl : l.stackTraces = false) {b L : Nat} {xs : Nat → Int32} (hX : va_X b L xs s s.heap) (hbl : b < s.heap.size) (hbb : b < eB E) {h : Hp} {x m9 o : Nat} {i : Int32} {cc ss : Nat} (bc : cc ≤ 601024) (bs : ss ≤ 7293034) (hw : wp_law4 (eE E) L xs 601024 7293034 h x m9 o i cc ss (fun h_ c_ s_ => c_ ≤ 601024 → s_ ≤ 7293034 → WS E p l e room_1 s m args below meth c 7 Q h_ c_ s_ 1557 [(0, .ref b), (1, .ref x), (2, .ref m9), (3, .ref o), (4, .int i)] [])) : WS E p l e room_1 s m args below meth c 7 Q h cc ss 452 [(0, .ref b), (1, .ref x), (2, .ref m9), (3, .ref o), (4, .int i)] [] := by
  unfold wp_law4 at hw
  refine r_aload_n C dL_law_452 rfl rfl ?_
  refine r_aload_n C dL_law_453 rfl rfl ?_
  refine r_iload C dL_law_454 rfl ?_
  refine r_iconst (v := (1 : Int32)) C dL_law_456 (by decide) ?_
  refine r_iadd C dL_law_457 ?_
  obtain ⟨j1, f1, l1, k1, hw⟩ := hw
  refine a_S C hX hbl hbb f1 l1 k1 dL_law_458 ?_
  refine r_aload_n C dL_law_459 rfl rfl ?_
  obtain ⟨b3, d3, hw⟩ := hw
  refine r_callSW (As := [.ref x, .int (xs j1), .ref o]) (st := []) C (m_L_order hl hw) v_L_order w_456 rfl ⟨leb rfl, leb rfl⟩ ⟨b3, d3⟩ rfl (leb rfl) dL_law_460 (fun _ _ z => z.elim) (kkI (K := fun hK sK => WS E p l e room_1 s m args below meth c 7 Q hK (cc + 3) (ss + 68) (460 + 3) [(0, .ref b), (1, .ref x), (2, .ref m9), (3, .ref o), (4, .int i)] sK) (fun x2 h2 hv => ?_))
  replace hw := hv
  clear hv
  refine r_istore C dL_law_463 (by decide) [(0, .ref b), (1, .ref x), (2, .ref m9), (3, .ref o), (4, .int i), (5, .int x2)] ⟨rfl, rfl, rfl, rfl, rfl, rfl, trivial⟩ ?_
  refine r_aload_n C dL_law_465 rfl rfl ?_
  refine r_aload_n C dL_law_466 rfl rfl ?_
  refine r_iload C dL_law_467 rfl ?_
  refine r_iconst (v := (1 : Int32)) C dL_law_469 (by decide) ?_
  refine r_iadd C dL_law_470 ?_
  obtain ⟨j4, f4, l4, k4, hw⟩ := hw
  refine a_S C hX hbl hbb f4 l4 k4 dL_law_471 ?_
  obtain ⟨g6, hw⟩ := hw
  refine r_callV (As := [.int (xs j4)]) (st := []) C (m_X6_order hl hw) v_X6_order w_1032 K8 g6 (by decide) ob8 rfl ⟨leb rfl, leb rfl⟩ ⟨b3, d3⟩ rfl (leb rfl) dL_law_472 (fun _ _ z => z.elim) (kkI (K := fun hK sK => WS E p l e room_1 s m args below meth c 7 Q hK (cc + 3 + 0) (ss + 68 + 0) (472 + 3) [(0, .ref b), (1, .ref x), (2, .ref m9), (3, .ref o), (4, .int i), (5, .int x2)] sK) (fun x5 h5 hv => ?_))
  replace hw := hv
  clear hv
  refine r_istore C dL_law_475 (by decide) [(0, .ref b), (1, .ref x), (2, .ref m9), (3, .ref o), (4, .int i), (5, .int x2), (6, .int x5)] ⟨rfl, rfl, rfl, rfl, rfl, rfl, rfl, trivial⟩ ?_
  refine r_aload_n C dL_law_477 rfl rfl ?_
  obtain ⟨g8, hw⟩ := hw
  refine r_callV (As := []) (st := []) C (m_X6_thrown hl hw) v_X6_thrown w_905 K8 g8 (by decide) ob8 rfl ⟨leb rfl, leb rfl⟩ ⟨b3, d3⟩ rfl (leb rfl) dL_law_478 (fun _ _ z => z.elim) (kpI (K := fun hK sK => WS E p l e room_1 s m args below meth c 7 Q hK (cc + 3 + 0 + 0) (ss + 68 + 0 + 0) (478 + 3) [(0, .ref b), (1, .ref x), (2, .ref m9), (3, .ref o), (4, .int i), (5, .int x2), (6, .int x5)] sK) (fun x7 hv => ?_))
  replace hw := hv
  clear hv
  refine r_iload C dL_law_481 rfl ?_
  refine r_icmp_eq C 488 dL_law_483 (by decide) (fun z9 => ?_) (fun z9 => ?_)
  · replace hw := hw.1 z9
    refine r_iload C dL_law_488 rfl ?_
    replace hw := hw (WS E p l e room_1 s m args below meth c 7 Q h5 (cc + 3 + 0 + 0) (ss + 68 + 0 + 0) 505 [(0, .ref b), (1, .ref x), (2, .ref m9), (3, .ref o), (4, .int i)] []) (by
      intro hv
      replace hw := hv
      clear hv
      refine r_goto C 1557 dL_law_505 (by decide) ?_
      exact (r_subk (hw b3 d3) ⟨rfl, rfl, rfl, rfl, rfl, trivial⟩)
      )
    refine r_if_ne C 505 dL_law_490 (by decide) (fun z10 => ?_) (fun z10 => ?_)
    · replace hw := hw.2 z10
      exact (r_subk hw ⟨rfl, rfl, rfl, rfl, rfl, trivial⟩)
    · replace hw := hw.1 z10
      refine r_aload_n C dL_law_493 rfl rfl ?_
      refine r_iconst (v := (0 : Int32)) C dL_law_494 (by decide) ?_
      obtain ⟨g11, hw⟩ := hw
      obtain ⟨l12, hw⟩ := hw
      obtain ⟨x13, e13, hw⟩ := hw
      refine a_J C g11 (j := 0) rfl (by decide) l12 e13 dL_law_495 ?_
      refine r_iload C dL_law_496 rfl ?_
      refine r_i2l C dL_law_498 ?_
      refine r_lcmp C dL_law_499 ?_
      refine r_if_eq C 505 dL_law_500 (by decide) (fun z14 => ?_) (fun z14 => ?_)
      · replace hw := hw.1 z14
        exact (r_subk hw ⟨rfl, rfl, rfl, rfl, rfl, trivial⟩)
      · replace hw := hw.2 z14
        refine r_iconst (v := (0 : Int32)) C dL_law_503 (by decide) ?_
        exact hw.elim
  · replace hw := hw.2 z9
    refine r_iconst (v := (0 : Int32)) C dL_law_486 (by decide) ?_
    exact hw.elim

def wp_law5 (dE : Nat) (L : Nat) (xs : Nat → Int32) (mc ms : Nat) (h : Hp) (x m9 o : Nat) (i : Int32) (cc ss : Nat) (J : Hp → Nat → Nat → Prop) : Prop :=
(∃ j1 : Nat, i + (1 : Int32) = nI j1 ∧ j1 < 2147483648 ∧ j1 < L ∧
 (∃ k2 n2 : Nat,
 (cc + k2 ≤ mc ∧
 (ss + n2 ≤ ms ∧
 wp_L_takt dE k2 n2 h x (xs j1) o (fun x2 h2 =>
 (∃ j4 : Nat, i + (1 : Int32) = nI j4 ∧ j4 < 2147483648 ∧ j4 < L ∧
 (hT h2 m9 = 8 ∧
 wp_X6_takt h2 m9 (xs j4) (fun x5 h5 =>
 (hT h5 m9 = 8 ∧
 wp_X6_thrown h5 m9 (fun x7 =>
 ((x7 = x2 →
 (∀ J561 : Prop, ((J h5 (cc + k2 + 0 + 0) (ss + n2 + 0 + 0)) → J561) →
 ((x2 = 0 →
 (hT h5 o = 22 ∧
 (0 < hL h5 o ∧
 (∃ x13 : Int64, hJ h5 o 0 = x13 ∧
 (((lg_cmp x13 x5.toInt64) = 0 →
 J561) ∧ (¬ ((lg_cmp x13 x5.toInt64) = 0) →
 False)))))) ∧ (¬ (x2 = 0) →
 J561)))) ∧ (¬ (x7 = x2) →
 False))))))))))))
set_option maxHeartbeats 4000000 in
set_option maxRecDepth 100000 in
theorem mc_law5 {E : Ev} {p : Program} {l : Launch} {e : Env} {s : State} {m : MethodId} {args : Array Value} {below : List Frame} {meth : Method} {c : Code} {Q : State → Prop} {nm : String} {tb : List ExceptionTableEntry} (C : CX E p l s m args meth c cL_law 7 "TaktLineLaw" nm (some .boolean) tb) (hl : l.stackTraces = false) {b L : Nat} {xs : Nat → Int32} (hX : va_X b L xs s s.heap) (hbl : b < s.heap.size) (hbb : b < eB E) {h : Hp} {x m9 o : Nat} {i : Int32} {cc ss : Nat} (bc : cc ≤ 601024) (bs : ss ≤ 7293034) (hw : wp_law5 (eE E) L xs 601024 7293034 h x m9 o i cc ss (fun h_ c_ s_ => c_ ≤ 601024 → s_ ≤ 7293034 → WS E p l e room_1 s m args below meth c 7 Q h_ c_ s_ 1557 [(0, .ref b), (1, .ref x), (2, .ref m9), (3, .ref o), (4, .int i)] [])) : WS E p l e room_1 s m args below meth c 7 Q h cc ss 508 [(0, .ref b), (1, .ref x), (2, .ref m9), (3, .ref o), (4, .int i)] [] := by
  unfold wp_law5 at hw
  refine r_aload_n C dL_law_508 rfl rfl ?_
  refine r_aload_n C dL_law_509 rfl rfl ?_
  refine r_iload C dL_law_510 rfl ?_
  refine r_iconst (v := (1 : Int32)) C dL_law_512 (by decide) ?_
  refine r_iadd C dL_law_513 ?_
  obtain ⟨j1, f1, l1, k1, hw⟩ := hw
  refine a_S C hX hbl hbb f1 l1 k1 dL_law_514 ?_
  refine r_aload_n C dL_law_515 rfl rfl ?_
  obtain ⟨k2, n2, hw⟩ := hw
  obtain ⟨b3, d3, hw⟩ := hw
  refine r_callSW (As := [.ref x, .int (xs j1), .ref o]) (st := []) C (m_L_takt hl hw) v_L_takt w_509 rfl ⟨leb rfl, leb rfl⟩ ⟨b3, d3⟩ rfl (leb rfl) dL_law_516 (fun _ _ z => z.elim) (kkI (K := fun hK sK => WS E p l e room_1 s m args below meth c 7 Q hK (cc + k2) (ss + n2) (516 + 3) [(0, .ref b), (1, .ref x), (2, .ref m9), (3, .ref o), (4, .int i)] sK) (fun x2 h2 hv => ?_))
  replace hw := hv
  clear hv
  refine r_istore C dL_law_519 (by decide) [(0, .ref b), (1, .ref x), (2, .ref m9), (3, .ref o), (4, .int i), (5, .int x2)] ⟨rfl, rfl, rfl, rfl, rfl, rfl, trivial⟩ ?_
  refine r_aload_n C dL_law_521 rfl rfl ?_
  refine r_aload_n C dL_law_522 rfl rfl ?_
  refine r_iload C dL_law_523 rfl ?_
  refine r_iconst (v := (1 : Int32)) C dL_law_525 (by decide) ?_
  refine r_iadd C dL_law_526 ?_
  obtain ⟨j4, f4, l4, k4, hw⟩ := hw
  refine a_S C hX hbl hbb f4 l4 k4 dL_law_527 ?_
  obtain ⟨g6, hw⟩ := hw
  refine r_callV (As := [.int (xs j4)]) (st := []) C (m_X6_takt hl hw) v_X6_takt w_1036 K8 g6 (by decide) ob8 rfl ⟨leb rfl, leb rfl⟩ ⟨b3, d3⟩ rfl (leb rfl) dL_law_528 (fun _ _ z => z.elim) (kkI (K := fun hK sK => WS E p l e room_1 s m args below meth c 7 Q hK (cc + k2 + 0) (ss + n2 + 0) (528 + 3) [(0, .ref b), (1, .ref x), (2, .ref m9), (3, .ref o), (4, .int i), (5, .int x2)] sK) (fun x5 h5 hv => ?_))
  replace hw := hv
  clear hv
  refine r_istore C dL_law_531 (by decide) [(0, .ref b), (1, .ref x), (2, .ref m9), (3, .ref o), (4, .int i), (5, .int x2), (6, .int x5)] ⟨rfl, rfl, rfl, rfl, rfl, rfl, rfl, trivial⟩ ?_
  refine r_aload_n C dL_law_533 rfl rfl ?_
  obtain ⟨g8, hw⟩ := hw
  refine r_callV (As := []) (st := []) C (m_X6_thrown hl hw) v_X6_thrown w_905 K8 g8 (by decide) ob8 rfl ⟨leb rfl, leb rfl⟩ ⟨b3, d3⟩ rfl (leb rfl) dL_law_534 (fun _ _ z => z.elim) (kpI (K := fun hK sK => WS E p l e room_1 s m args below meth c 7 Q hK (cc + k2 + 0 + 0) (ss + n2 + 0 + 0) (534 + 3) [(0, .ref b), (1, .ref x), (2, .ref m9), (3, .ref o), (4, .int i), (5, .int x2), (6, .int x5)] sK) (fun x7 hv => ?_))
  replace hw := hv
  clear hv
  refine r_iload C dL_law_537 rfl ?_
  refine r_icmp_eq C 544 dL_law_539 (by decide) (fun z9 => ?_) (fun z9 => ?_)
  · replace hw := hw.1 z9
    refine r_iload C dL_law_544 rfl ?_
    replace hw := hw (WS E p l e room_1 s m args below meth c 7 Q h5 (cc + k2 + 0 + 0) (ss + n2 + 0 + 0) 561 [(0, .ref b), (1, .ref x), (2, .ref m9), (3, .ref o), (4, .int i)] []) (by
      intro hv
      replace hw := hv
      clear hv
      refine r_goto C 1557 dL_law_561 (by decide) ?_
      exact (r_subk (hw b3 d3) ⟨rfl, rfl, rfl, rfl, rfl, trivial⟩)
      )
    refine r_if_ne C 561 dL_law_546 (by decide) (fun z10 => ?_) (fun z10 => ?_)
    · replace hw := hw.2 z10
      exact (r_subk hw ⟨rfl, rfl, rfl, rfl, rfl, trivial⟩)
    · replace hw := hw.1 z10
      refine r_aload_n C dL_law_549 rfl rfl ?_
      refine r_iconst (v := (0 : Int32)) C dL_law_550 (by decide) ?_
      obtain ⟨g11, hw⟩ := hw
      obtain ⟨l12, hw⟩ := hw
      obtain ⟨x13, e13, hw⟩ := hw
      refine a_J C g11 (j := 0) rfl (by decide) l12 e13 dL_law_551 ?_
      refine r_iload C dL_law_552 rfl ?_
      refine r_i2l C dL_law_554 ?_
      refine r_lcmp C dL_law_555 ?_
      refine r_if_eq C 561 dL_law_556 (by decide) (fun z14 => ?_) (fun z14 => ?_)
      · replace hw := hw.1 z14
        exact (r_subk hw ⟨rfl, rfl, rfl, rfl, rfl, trivial⟩)
      · replace hw := hw.2 z14
        refine r_iconst (v := (0 : Int32)) C dL_law_559 (by decide) ?_
        exact hw.elim
  · replace hw := hw.2 z9
    refine r_iconst (v := (0 : Int32)) C dL_law_542 (by decide) ?_
    exact hw.elim

def wp_law6 (dE : Nat) (L : Nat) (xs : Nat → Int32) (mc ms : Nat) (h : Hp) (x m9 o : Nat) (i : Int32) (cc ss : Nat) (J : Hp → Nat → Nat → Prop) : Prop :=
(∃ j1 : Nat, i + (1 : Int32) = nI j1 ∧ j1 < 2147483648 ∧ j1 < L ∧
 (cc + 2 ≤ mc ∧
 (ss + 12 ≤ ms ∧
 wp_L_fault h x (xs j1) o (fun x2 h2 =>
 (∃ j4 : Nat, i + (1 : Int32) = nI j4 ∧ j4 < 2147483648 ∧ j4 < L ∧
 (hT h2 m9 = 8 ∧
 wp_X6_fault h2 m9 (xs j4) (fun x5 h5 =>
 (hT h5 m9 = 8 ∧
 wp_X6_thrown h5 m9 (fun x7 =>
 ((x7 = x2 →
 (∀ J624 : Prop, ((J h5 (cc + 2 + 0 + 0) (ss + 12 + 0 + 0)) → J624) →
 ((x2 = 0 →
 (hT h5 o = 22 ∧
 (0 < hL h5 o ∧
 (∃ x13 : Int64, hJ h5 o 0 = x13 ∧
 (∀ J618 : Int64 → Prop, (∀ (t618_0 : Int64), (((lg_cmp x13 t618_0) = 0 →
 J624) ∧ (¬ ((lg_cmp x13 t618_0) = 0) →
 False)) → J618 t618_0) →
 ((x5 = 0 →
 J618 (0 : Int64)) ∧ (¬ (x5 = 0) →
 J618 (1 : Int64)))))))) ∧ (¬ (x2 = 0) →
 J624)))) ∧ (¬ (x7 = x2) →
 False)))))))))))
set_option maxHeartbeats 4000000 in
set_option maxRecDepth 100000 in
theorem mc_law6 {E : Ev} {p : Program} {l : Launch} {e : Env} {s : State} {m : MethodId} {args : Array Value} {below : List Frame} {meth : Method} {c : Code} {Q : State → Prop} {nm : String} {tb : List ExceptionTableEntry} (C : CX E p l s m args meth c cL_law 7 "TaktLineLaw" nm (some .boolean) tb) (hl : l.stackTraces = false) {b L : Nat} {xs : Nat → Int32} (hX : va_X b L xs s s.heap) (hbl : b < s.heap.size) (hbb : b < eB E) {h : Hp} {x m9 o : Nat} {i : Int32} {cc ss : Nat} (bc : cc ≤ 601024) (bs : ss ≤ 7293034) (hw : wp_law6 (eE E) L xs 601024 7293034 h x m9 o i cc ss (fun h_ c_ s_ => c_ ≤ 601024 → s_ ≤ 7293034 → WS E p l e room_1 s m args below meth c 7 Q h_ c_ s_ 1557 [(0, .ref b), (1, .ref x), (2, .ref m9), (3, .ref o), (4, .int i)] [])) : WS E p l e room_1 s m args below meth c 7 Q h cc ss 564 [(0, .ref b), (1, .ref x), (2, .ref m9), (3, .ref o), (4, .int i)] [] := by
  unfold wp_law6 at hw
  refine r_aload_n C dL_law_564 rfl rfl ?_
  refine r_aload_n C dL_law_565 rfl rfl ?_
  refine r_iload C dL_law_566 rfl ?_
  refine r_iconst (v := (1 : Int32)) C dL_law_568 (by decide) ?_
  refine r_iadd C dL_law_569 ?_
  obtain ⟨j1, f1, l1, k1, hw⟩ := hw
  refine a_S C hX hbl hbb f1 l1 k1 dL_law_570 ?_
  refine r_aload_n C dL_law_571 rfl rfl ?_
  obtain ⟨b3, d3, hw⟩ := hw
  refine r_callSW (As := [.ref x, .int (xs j1), .ref o]) (st := []) C (m_L_fault hl hw) v_L_fault w_656 rfl ⟨leb rfl, leb rfl⟩ ⟨b3, d3⟩ rfl (leb rfl) dL_law_572 (fun _ _ z => z.elim) (kkI (K := fun hK sK => WS E p l e room_1 s m args below meth c 7 Q hK (cc + 2) (ss + 12) (572 + 3) [(0, .ref b), (1, .ref x), (2, .ref m9), (3, .ref o), (4, .int i)] sK) (fun x2 h2 hv => ?_))
  replace hw := hv
  clear hv
  refine r_istore C dL_law_575 (by decide) [(0, .ref b), (1, .ref x), (2, .ref m9), (3, .ref o), (4, .int i), (5, .int x2)] ⟨rfl, rfl, rfl, rfl, rfl, rfl, trivial⟩ ?_
  refine r_aload_n C dL_law_577 rfl rfl ?_
  refine r_aload_n C dL_law_578 rfl rfl ?_
  refine r_iload C dL_law_579 rfl ?_
  refine r_iconst (v := (1 : Int32)) C dL_law_581 (by decide) ?_
  refine r_iadd C dL_law_582 ?_
  obtain ⟨j4, f4, l4, k4, hw⟩ := hw
  refine a_S C hX hbl hbb f4 l4 k4 dL_law_583 ?_
  obtain ⟨g6, hw⟩ := hw
  refine r_callV (As := [.int (xs j4)]) (st := []) C (m_X6_fault hl hw) v_X6_fault w_1072 K8 g6 (by decide) ob8 rfl ⟨leb rfl, leb rfl⟩ ⟨b3, d3⟩ rfl (leb rfl) dL_law_584 (fun _ _ z => z.elim) (kkI (K := fun hK sK => WS E p l e room_1 s m args below meth c 7 Q hK (cc + 2 + 0) (ss + 12 + 0) (584 + 3) [(0, .ref b), (1, .ref x), (2, .ref m9), (3, .ref o), (4, .int i), (5, .int x2)] sK) (fun x5 h5 hv => ?_))
  replace hw := hv
  clear hv
  refine r_istore C dL_law_587 (by decide) [(0, .ref b), (1, .ref x), (2, .ref m9), (3, .ref o), (4, .int i), (5, .int x2), (6, .int x5)] ⟨rfl, rfl, rfl, rfl, rfl, rfl, rfl, trivial⟩ ?_
  refine r_aload_n C dL_law_589 rfl rfl ?_
  obtain ⟨g8, hw⟩ := hw
  refine r_callV (As := []) (st := []) C (m_X6_thrown hl hw) v_X6_thrown w_905 K8 g8 (by decide) ob8 rfl ⟨leb rfl, leb rfl⟩ ⟨b3, d3⟩ rfl (leb rfl) dL_law_590 (fun _ _ z => z.elim) (kpI (K := fun hK sK => WS E p l e room_1 s m args below meth c 7 Q hK (cc + 2 + 0 + 0) (ss + 12 + 0 + 0) (590 + 3) [(0, .ref b), (1, .ref x), (2, .ref m9), (3, .ref o), (4, .int i), (5, .int x2), (6, .int x5)] sK) (fun x7 hv => ?_))
  replace hw := hv
  clear hv
  refine r_iload C dL_law_593 rfl ?_
  refine r_icmp_eq C 600 dL_law_595 (by decide) (fun z9 => ?_) (fun z9 => ?_)
  · replace hw := hw.1 z9
    refine r_iload C dL_law_600 rfl ?_
    replace hw := hw (WS E p l e room_1 s m args below meth c 7 Q h5 (cc + 2 + 0 + 0) (ss + 12 + 0 + 0) 624 [(0, .ref b), (1, .ref x), (2, .ref m9), (3, .ref o), (4, .int i)] []) (by
      intro hv
      replace hw := hv
      clear hv
      refine r_goto C 1557 dL_law_624 (by decide) ?_
      exact (r_subk (hw b3 d3) ⟨rfl, rfl, rfl, rfl, rfl, trivial⟩)
      )
    refine r_if_ne C 624 dL_law_602 (by decide) (fun z10 => ?_) (fun z10 => ?_)
    · replace hw := hw.2 z10
      exact (r_subk hw ⟨rfl, rfl, rfl, rfl, rfl, trivial⟩)
    · replace hw := hw.1 z10
      refine r_aload_n C dL_law_605 rfl rfl ?_
      refine r_iconst (v := (0 : Int32)) C dL_law_606 (by decide) ?_
      obtain ⟨g11, hw⟩ := hw
      obtain ⟨l12, hw⟩ := hw
      obtain ⟨x13, e13, hw⟩ := hw
      refine a_J C g11 (j := 0) rfl (by decide) l12 e13 dL_law_607 ?_
      refine r_iload C dL_law_608 rfl ?_
      replace hw := hw (fun (t618_0 : Int64) => WS E p l e room_1 s m args below meth c 7 Q h5 (cc + 2 + 0 + 0) (ss + 12 + 0 + 0) 618 [(0, .ref b), (1, .ref x), (2, .ref m9), (3, .ref o), (4, .int i)] [.long t618_0, .long x13]) (by
        intro t618_0 hv
        replace hw := hv
        clear hv
        refine r_lcmp C dL_law_618 ?_
        refine r_if_eq C 624 dL_law_619 (by decide) (fun z14 => ?_) (fun z14 => ?_)
        · replace hw := hw.1 z14
          exact (r_subk hw ⟨rfl, rfl, rfl, rfl, rfl, trivial⟩)
        · replace hw := hw.2 z14
          refine r_iconst (v := (0 : Int32)) C dL_law_622 (by decide) ?_
          exact hw.elim
        )
      refine r_if_eq C 617 dL_law_610 (by decide) (fun z15 => ?_) (fun z15 => ?_)
      · replace hw := hw.1 z15
        refine r_lconst (v := 0) C dL_law_617 (by decide) ?_
        exact (r_subk hw ⟨rfl, rfl, rfl, rfl, rfl, trivial⟩)
      · replace hw := hw.2 z15
        refine r_lconst (v := 1) C dL_law_613 (by decide) ?_
        refine r_goto C 618 dL_law_614 (by decide) ?_
        exact (r_subk hw ⟨rfl, rfl, rfl, rfl, rfl, trivial⟩)
  · replace hw := hw.2 z9
    refine r_iconst (v := (0 : Int32)) C dL_law_598 (by decide) ?_
    exact hw.elim

def wp_law7 (dE : Nat) (L : Nat) (xs : Nat → Int32) (mc ms : Nat) (h : Hp) (x m9 o : Nat) (i : Int32) (cc ss : Nat) (J : Hp → Nat → Nat → Prop) : Prop :=
(hT h x = 7 ∧
 wp_X5_takts h x (fun x1 =>
 (hT h m9 = 8 ∧
 wp_X6_takts h m9 (fun x3 h3 =>
 ((x1 = x3 →
 J h3 (cc + 0 + 0) (ss + 0 + 0)) ∧ (¬ (x1 = x3) →
 False))))))
set_option maxHeartbeats 4000000 in
set_option maxRecDepth 100000 in
theorem mc_law7 {E : Ev} {p : Program} {l : Launch} {e : Env} {s : State} {m : MethodId} {args : Array Value} {below : List Frame} {meth : Method} {c : Code} {Q : State → Prop} {nm : String} {tb : List ExceptionTableEntry} (C : CX E p l s m args meth c cL_law 7 "TaktLineLaw" nm (some .boolean) tb) (hl : l.stackTraces = false) {b L : Nat} {xs : Nat → Int32} (hX : va_X b L xs s s.heap) (hbl : b < s.heap.size) (hbb : b < eB E) {h : Hp} {x m9 o : Nat} {i : Int32} {cc ss : Nat} (bc : cc ≤ 601024) (bs : ss ≤ 7293034) (hw : wp_law7 (eE E) L xs 601024 7293034 h x m9 o i cc ss (fun h_ c_ s_ => c_ ≤ 601024 → s_ ≤ 7293034 → WS E p l e room_1 s m args below meth c 7 Q h_ c_ s_ 1557 [(0, .ref b), (1, .ref x), (2, .ref m9), (3, .ref o), (4, .int i)] [])) : WS E p l e room_1 s m args below meth c 7 Q h cc ss 627 [(0, .ref b), (1, .ref x), (2, .ref m9), (3, .ref o), (4, .int i)] [] := by
  unfold wp_law7 at hw
  refine r_aload_n C dL_law_627 rfl rfl ?_
  obtain ⟨g2, hw⟩ := hw
  refine r_callV (As := []) (st := []) C (m_X5_takts hl hw) v_X5_takts w_168 K7 g2 (by decide) ob7 rfl ⟨leb rfl, leb rfl⟩ ⟨bc, bs⟩ rfl (leb rfl) dL_law_628 (fun _ _ z => z.elim) (kpI (K := fun hK sK => WS E p l e room_1 s m args below meth c 7 Q hK (cc + 0) (ss + 0) (628 + 3) [(0, .ref b), (1, .ref x), (2, .ref m9), (3, .ref o), (4, .int i)] sK) (fun x1 hv => ?_))
  replace hw := hv
  clear hv
  refine r_aload_n C dL_law_631 rfl rfl ?_
  obtain ⟨g4, hw⟩ := hw
  refine r_callV (As := []) (st := [.int x1]) C (m_X6_takts hl hw) v_X6_takts w_1076 K8 g4 (by decide) ob8 rfl ⟨leb rfl, leb rfl⟩ ⟨bc, bs⟩ rfl (leb rfl) dL_law_632 (fun _ _ z => z.elim) (kkI (K := fun hK sK => WS E p l e room_1 s m args below meth c 7 Q hK (cc + 0 + 0) (ss + 0 + 0) (632 + 3) [(0, .ref b), (1, .ref x), (2, .ref m9), (3, .ref o), (4, .int i)] sK) (fun x3 h3 hv => ?_))
  replace hw := hv
  clear hv
  refine r_icmp_eq C 1557 dL_law_635 (by decide) (fun z5 => ?_) (fun z5 => ?_)
  · replace hw := hw.1 z5
    exact (r_subk (hw bc bs) ⟨rfl, rfl, rfl, rfl, rfl, trivial⟩)
  · replace hw := hw.2 z5
    refine r_iconst (v := (0 : Int32)) C dL_law_638 (by decide) ?_
    exact hw.elim

def wp_law8 (dE : Nat) (L : Nat) (xs : Nat → Int32) (mc ms : Nat) (h : Hp) (x m9 o : Nat) (i : Int32) (cc ss : Nat) (J : Hp → Nat → Nat → Prop) : Prop :=
(∃ j1 : Nat, i + (1 : Int32) = nI j1 ∧ j1 < 2147483648 ∧ j1 < L ∧
 (cc + 1 ≤ mc ∧
 (ss + 6 ≤ ms ∧
 wp_L_whereIs h x (xs j1) o (fun x2 h2 =>
 (∃ j4 : Nat, i + (1 : Int32) = nI j4 ∧ j4 < 2147483648 ∧ j4 < L ∧
 (hT h2 m9 = 8 ∧
 wp_X6_whereIs h2 m9 (xs j4) (fun x5 h5 =>
 (hT h5 m9 = 8 ∧
 wp_X6_thrown h5 m9 (fun x7 =>
 ((x7 = x2 →
 (∀ J693 : Prop, ((J h5 (cc + 1 + 0 + 0) (ss + 6 + 0 + 0)) → J693) →
 ((x2 = 0 →
 (hT h5 o = 22 ∧
 (0 < hL h5 o ∧
 (∃ x13 : Int64, hJ h5 o 0 = x13 ∧
 (((lg_cmp x13 x5.toInt64) = 0 →
 J693) ∧ (¬ ((lg_cmp x13 x5.toInt64) = 0) →
 False)))))) ∧ (¬ (x2 = 0) →
 J693)))) ∧ (¬ (x7 = x2) →
 False)))))))))))
set_option maxHeartbeats 4000000 in
set_option maxRecDepth 100000 in
theorem mc_law8 {E : Ev} {p : Program} {l : Launch} {e : Env} {s : State} {m : MethodId} {args : Array Value} {below : List Frame} {meth : Method} {c : Code} {Q : State → Prop} {nm : String} {tb : List ExceptionTableEntry} (C : CX E p l s m args meth c cL_law 7 "TaktLineLaw" nm (some .boolean) tb) (hl : l.stackTraces = false) {b L : Nat} {xs : Nat → Int32} (hX : va_X b L xs s s.heap) (hbl : b < s.heap.size) (hbb : b < eB E) {h : Hp} {x m9 o : Nat} {i : Int32} {cc ss : Nat} (bc : cc ≤ 601024) (bs : ss ≤ 7293034) (hw : wp_law8 (eE E) L xs 601024 7293034 h x m9 o i cc ss (fun h_ c_ s_ => c_ ≤ 601024 → s_ ≤ 7293034 → WS E p l e room_1 s m args below meth c 7 Q h_ c_ s_ 1557 [(0, .ref b), (1, .ref x), (2, .ref m9), (3, .ref o), (4, .int i)] [])) : WS E p l e room_1 s m args below meth c 7 Q h cc ss 640 [(0, .ref b), (1, .ref x), (2, .ref m9), (3, .ref o), (4, .int i)] [] := by
  unfold wp_law8 at hw
  refine r_aload_n C dL_law_640 rfl rfl ?_
  refine r_aload_n C dL_law_641 rfl rfl ?_
  refine r_iload C dL_law_642 rfl ?_
  refine r_iconst (v := (1 : Int32)) C dL_law_644 (by decide) ?_
  refine r_iadd C dL_law_645 ?_
  obtain ⟨j1, f1, l1, k1, hw⟩ := hw
  refine a_S C hX hbl hbb f1 l1 k1 dL_law_646 ?_
  refine r_aload_n C dL_law_647 rfl rfl ?_
  obtain ⟨b3, d3, hw⟩ := hw
  refine r_callSW (As := [.ref x, .int (xs j1), .ref o]) (st := []) C (m_L_whereIs hl hw) v_L_whereIs w_673 rfl ⟨leb rfl, leb rfl⟩ ⟨b3, d3⟩ rfl (leb rfl) dL_law_648 (fun _ _ z => z.elim) (kkI (K := fun hK sK => WS E p l e room_1 s m args below meth c 7 Q hK (cc + 1) (ss + 6) (648 + 3) [(0, .ref b), (1, .ref x), (2, .ref m9), (3, .ref o), (4, .int i)] sK) (fun x2 h2 hv => ?_))
  replace hw := hv
  clear hv
  refine r_istore C dL_law_651 (by decide) [(0, .ref b), (1, .ref x), (2, .ref m9), (3, .ref o), (4, .int i), (5, .int x2)] ⟨rfl, rfl, rfl, rfl, rfl, rfl, trivial⟩ ?_
  refine r_aload_n C dL_law_653 rfl rfl ?_
  refine r_aload_n C dL_law_654 rfl rfl ?_
  refine r_iload C dL_law_655 rfl ?_
  refine r_iconst (v := (1 : Int32)) C dL_law_657 (by decide) ?_
  refine r_iadd C dL_law_658 ?_
  obtain ⟨j4, f4, l4, k4, hw⟩ := hw
  refine a_S C hX hbl hbb f4 l4 k4 dL_law_659 ?_
  obtain ⟨g6, hw⟩ := hw
  refine r_callV (As := [.int (xs j4)]) (st := []) C (m_X6_whereIs hl hw) v_X6_whereIs w_1080 K8 g6 (by decide) ob8 rfl ⟨leb rfl, leb rfl⟩ ⟨b3, d3⟩ rfl (leb rfl) dL_law_660 (fun _ _ z => z.elim) (kkI (K := fun hK sK => WS E p l e room_1 s m args below meth c 7 Q hK (cc + 1 + 0) (ss + 6 + 0) (660 + 3) [(0, .ref b), (1, .ref x), (2, .ref m9), (3, .ref o), (4, .int i), (5, .int x2)] sK) (fun x5 h5 hv => ?_))
  replace hw := hv
  clear hv
  refine r_istore C dL_law_663 (by decide) [(0, .ref b), (1, .ref x), (2, .ref m9), (3, .ref o), (4, .int i), (5, .int x2), (6, .int x5)] ⟨rfl, rfl, rfl, rfl, rfl, rfl, rfl, trivial⟩ ?_
  refine r_aload_n C dL_law_665 rfl rfl ?_
  obtain ⟨g8, hw⟩ := hw
  refine r_callV (As := []) (st := []) C (m_X6_thrown hl hw) v_X6_thrown w_905 K8 g8 (by decide) ob8 rfl ⟨leb rfl, leb rfl⟩ ⟨b3, d3⟩ rfl (leb rfl) dL_law_666 (fun _ _ z => z.elim) (kpI (K := fun hK sK => WS E p l e room_1 s m args below meth c 7 Q hK (cc + 1 + 0 + 0) (ss + 6 + 0 + 0) (666 + 3) [(0, .ref b), (1, .ref x), (2, .ref m9), (3, .ref o), (4, .int i), (5, .int x2), (6, .int x5)] sK) (fun x7 hv => ?_))
  replace hw := hv
  clear hv
  refine r_iload C dL_law_669 rfl ?_
  refine r_icmp_eq C 676 dL_law_671 (by decide) (fun z9 => ?_) (fun z9 => ?_)
  · replace hw := hw.1 z9
    refine r_iload C dL_law_676 rfl ?_
    replace hw := hw (WS E p l e room_1 s m args below meth c 7 Q h5 (cc + 1 + 0 + 0) (ss + 6 + 0 + 0) 693 [(0, .ref b), (1, .ref x), (2, .ref m9), (3, .ref o), (4, .int i)] []) (by
      intro hv
      replace hw := hv
      clear hv
      refine r_goto C 1557 dL_law_693 (by decide) ?_
      exact (r_subk (hw b3 d3) ⟨rfl, rfl, rfl, rfl, rfl, trivial⟩)
      )
    refine r_if_ne C 693 dL_law_678 (by decide) (fun z10 => ?_) (fun z10 => ?_)
    · replace hw := hw.2 z10
      exact (r_subk hw ⟨rfl, rfl, rfl, rfl, rfl, trivial⟩)
    · replace hw := hw.1 z10
      refine r_aload_n C dL_law_681 rfl rfl ?_
      refine r_iconst (v := (0 : Int32)) C dL_law_682 (by decide) ?_
      obtain ⟨g11, hw⟩ := hw
      obtain ⟨l12, hw⟩ := hw
      obtain ⟨x13, e13, hw⟩ := hw
      refine a_J C g11 (j := 0) rfl (by decide) l12 e13 dL_law_683 ?_
      refine r_iload C dL_law_684 rfl ?_
      refine r_i2l C dL_law_686 ?_
      refine r_lcmp C dL_law_687 ?_
      refine r_if_eq C 693 dL_law_688 (by decide) (fun z14 => ?_) (fun z14 => ?_)
      · replace hw := hw.1 z14
        exact (r_subk hw ⟨rfl, rfl, rfl, rfl, rfl, trivial⟩)
      · replace hw := hw.2 z14
        refine r_iconst (v := (0 : Int32)) C dL_law_691 (by decide) ?_
        exact hw.elim
  · replace hw := hw.2 z9
    refine r_iconst (v := (0 : Int32)) C dL_law_674 (by decide) ?_
    exact hw.elim

def wp_law9 (dE : Nat) (L : Nat) (xs : Nat → Int32) (mc ms : Nat) (h : Hp) (x m9 o : Nat) (i : Int32) (cc ss : Nat) (J : Hp → Nat → Nat → Prop) : Prop :=
(∃ j1 : Nat, i + (1 : Int32) = nI j1 ∧ j1 < 2147483648 ∧ j1 < L ∧
 (cc + 1 ≤ mc ∧
 (ss + 6 ≤ ms ∧
 wp_L_stationOf h x (xs j1) o (fun x2 h2 =>
 (∃ j4 : Nat, i + (1 : Int32) = nI j4 ∧ j4 < 2147483648 ∧ j4 < L ∧
 (hT h2 m9 = 8 ∧
 wp_X6_stationOf h2 m9 (xs j4) (fun x5 h5 =>
 (hT h5 m9 = 8 ∧
 wp_X6_thrown h5 m9 (fun x7 =>
 ((x7 = x2 →
 (∀ J749 : Prop, ((J h5 (cc + 1 + 0 + 0) (ss + 6 + 0 + 0)) → J749) →
 ((x2 = 0 →
 (hT h5 o = 22 ∧
 (0 < hL h5 o ∧
 (∃ x13 : Int64, hJ h5 o 0 = x13 ∧
 (((lg_cmp x13 x5.toInt64) = 0 →
 J749) ∧ (¬ ((lg_cmp x13 x5.toInt64) = 0) →
 False)))))) ∧ (¬ (x2 = 0) →
 J749)))) ∧ (¬ (x7 = x2) →
 False)))))))))))
set_option maxHeartbeats 4000000 in
set_option maxRecDepth 100000 in
theorem mc_law9 {E : Ev} {p : Program} {l : Launch} {e : Env} {s : State} {m : MethodId} {args : Array Value} {below : List Frame} {meth : Method} {c : Code} {Q : State → Prop} {nm : String} {tb : List ExceptionTableEntry} (C : CX E p l s m args meth c cL_law 7 "TaktLineLaw" nm (some .boolean) tb) (hl : l.stackTraces = false) {b L : Nat} {xs : Nat → Int32} (hX : va_X b L xs s s.heap) (hbl : b < s.heap.size) (hbb : b < eB E) {h : Hp} {x m9 o : Nat} {i : Int32} {cc ss : Nat} (bc : cc ≤ 601024) (bs : ss ≤ 7293034) (hw : wp_law9 (eE E) L xs 601024 7293034 h x m9 o i cc ss (fun h_ c_ s_ => c_ ≤ 601024 → s_ ≤ 7293034 → WS E p l e room_1 s m args below meth c 7 Q h_ c_ s_ 1557 [(0, .ref b), (1, .ref x), (2, .ref m9), (3, .ref o), (4, .int i)] [])) : WS E p l e room_1 s m args below meth c 7 Q h cc ss 696 [(0, .ref b), (1, .ref x), (2, .ref m9), (3, .ref o), (4, .int i)] [] := by
  unfold wp_law9 at hw
  refine r_aload_n C dL_law_696 rfl rfl ?_
  refine r_aload_n C dL_law_697 rfl rfl ?_
  refine r_iload C dL_law_698 rfl ?_
  refine r_iconst (v := (1 : Int32)) C dL_law_700 (by decide) ?_
  refine r_iadd C dL_law_701 ?_
  obtain ⟨j1, f1, l1, k1, hw⟩ := hw
  refine a_S C hX hbl hbb f1 l1 k1 dL_law_702 ?_
  refine r_aload_n C dL_law_703 rfl rfl ?_
  obtain ⟨b3, d3, hw⟩ := hw
  refine r_callSW (As := [.ref x, .int (xs j1), .ref o]) (st := []) C (m_L_stationOf hl hw) v_L_stationOf w_680 rfl ⟨leb rfl, leb rfl⟩ ⟨b3, d3⟩ rfl (leb rfl) dL_law_704 (fun _ _ z => z.elim) (kkI (K := fun hK sK => WS E p l e room_1 s m args below meth c 7 Q hK (cc + 1) (ss + 6) (704 + 3) [(0, .ref b), (1, .ref x), (2, .ref m9), (3, .ref o), (4, .int i)] sK) (fun x2 h2 hv => ?_))
  replace hw := hv
  clear hv
  refine r_istore C dL_law_707 (by decide) [(0, .ref b), (1, .ref x), (2, .ref m9), (3, .ref o), (4, .int i), (5, .int x2)] ⟨rfl, rfl, rfl, rfl, rfl, rfl, trivial⟩ ?_
  refine r_aload_n C dL_law_709 rfl rfl ?_
  refine r_aload_n C dL_law_710 rfl rfl ?_
  refine r_iload C dL_law_711 rfl ?_
  refine r_iconst (v := (1 : Int32)) C dL_law_713 (by decide) ?_
  refine r_iadd C dL_law_714 ?_
  obtain ⟨j4, f4, l4, k4, hw⟩ := hw
  refine a_S C hX hbl hbb f4 l4 k4 dL_law_715 ?_
  obtain ⟨g6, hw⟩ := hw
  refine r_callV (As := [.int (xs j4)]) (st := []) C (m_X6_stationOf hl hw) v_X6_stationOf w_1084 K8 g6 (by decide) ob8 rfl ⟨leb rfl, leb rfl⟩ ⟨b3, d3⟩ rfl (leb rfl) dL_law_716 (fun _ _ z => z.elim) (kkI (K := fun hK sK => WS E p l e room_1 s m args below meth c 7 Q hK (cc + 1 + 0) (ss + 6 + 0) (716 + 3) [(0, .ref b), (1, .ref x), (2, .ref m9), (3, .ref o), (4, .int i), (5, .int x2)] sK) (fun x5 h5 hv => ?_))
  replace hw := hv
  clear hv
  refine r_istore C dL_law_719 (by decide) [(0, .ref b), (1, .ref x), (2, .ref m9), (3, .ref o), (4, .int i), (5, .int x2), (6, .int x5)] ⟨rfl, rfl, rfl, rfl, rfl, rfl, rfl, trivial⟩ ?_
  refine r_aload_n C dL_law_721 rfl rfl ?_
  obtain ⟨g8, hw⟩ := hw
  refine r_callV (As := []) (st := []) C (m_X6_thrown hl hw) v_X6_thrown w_905 K8 g8 (by decide) ob8 rfl ⟨leb rfl, leb rfl⟩ ⟨b3, d3⟩ rfl (leb rfl) dL_law_722 (fun _ _ z => z.elim) (kpI (K := fun hK sK => WS E p l e room_1 s m args below meth c 7 Q hK (cc + 1 + 0 + 0) (ss + 6 + 0 + 0) (722 + 3) [(0, .ref b), (1, .ref x), (2, .ref m9), (3, .ref o), (4, .int i), (5, .int x2), (6, .int x5)] sK) (fun x7 hv => ?_))
  replace hw := hv
  clear hv
  refine r_iload C dL_law_725 rfl ?_
  refine r_icmp_eq C 732 dL_law_727 (by decide) (fun z9 => ?_) (fun z9 => ?_)
  · replace hw := hw.1 z9
    refine r_iload C dL_law_732 rfl ?_
    replace hw := hw (WS E p l e room_1 s m args below meth c 7 Q h5 (cc + 1 + 0 + 0) (ss + 6 + 0 + 0) 749 [(0, .ref b), (1, .ref x), (2, .ref m9), (3, .ref o), (4, .int i)] []) (by
      intro hv
      replace hw := hv
      clear hv
      refine r_goto C 1557 dL_law_749 (by decide) ?_
      exact (r_subk (hw b3 d3) ⟨rfl, rfl, rfl, rfl, rfl, trivial⟩)
      )
    refine r_if_ne C 749 dL_law_734 (by decide) (fun z10 => ?_) (fun z10 => ?_)
    · replace hw := hw.2 z10
      exact (r_subk hw ⟨rfl, rfl, rfl, rfl, rfl, trivial⟩)
    · replace hw := hw.1 z10
      refine r_aload_n C dL_law_737 rfl rfl ?_
      refine r_iconst (v := (0 : Int32)) C dL_law_738 (by decide) ?_
      obtain ⟨g11, hw⟩ := hw
      obtain ⟨l12, hw⟩ := hw
      obtain ⟨x13, e13, hw⟩ := hw
      refine a_J C g11 (j := 0) rfl (by decide) l12 e13 dL_law_739 ?_
      refine r_iload C dL_law_740 rfl ?_
      refine r_i2l C dL_law_742 ?_
      refine r_lcmp C dL_law_743 ?_
      refine r_if_eq C 749 dL_law_744 (by decide) (fun z14 => ?_) (fun z14 => ?_)
      · replace hw := hw.1 z14
        exact (r_subk hw ⟨rfl, rfl, rfl, rfl, rfl, trivial⟩)
      · replace hw := hw.2 z14
        refine r_iconst (v := (0 : Int32)) C dL_law_747 (by decide) ?_
        exact hw.elim
  · replace hw := hw.2 z9
    refine r_iconst (v := (0 : Int32)) C dL_law_730 (by decide) ?_
    exact hw.elim

def wp_law10 (dE : Nat) (L : Nat) (xs : Nat → Int32) (mc ms : Nat) (h : Hp) (x m9 o : Nat) (i : Int32) (cc ss : Nat) (J : Hp → Nat → Nat → Prop) : Prop :=
(∃ j1 : Nat, i + (1 : Int32) = nI j1 ∧ j1 < 2147483648 ∧ j1 < L ∧
 (cc + 1 ≤ mc ∧
 (ss + 6 ≤ ms ∧
 wp_L_carAt h x (xs j1) o (fun x2 h2 =>
 (∃ j4 : Nat, i + (1 : Int32) = nI j4 ∧ j4 < 2147483648 ∧ j4 < L ∧
 (hT h2 m9 = 8 ∧
 wp_X6_carAt h2 m9 (xs j4) (fun x5 h5 =>
 (hT h5 m9 = 8 ∧
 wp_X6_thrown h5 m9 (fun x7 =>
 ((x7 = x2 →
 (∀ J805 : Prop, ((J h5 (cc + 1 + 0 + 0) (ss + 6 + 0 + 0)) → J805) →
 ((x2 = 0 →
 (hT h5 o = 22 ∧
 (0 < hL h5 o ∧
 (∃ x13 : Int64, hJ h5 o 0 = x13 ∧
 (((lg_cmp x13 x5.toInt64) = 0 →
 J805) ∧ (¬ ((lg_cmp x13 x5.toInt64) = 0) →
 False)))))) ∧ (¬ (x2 = 0) →
 J805)))) ∧ (¬ (x7 = x2) →
 False)))))))))))
set_option maxHeartbeats 4000000 in
set_option maxRecDepth 100000 in
theorem mc_law10 {E : Ev} {p : Program} {l : Launch} {e : Env} {s : State} {m : MethodId} {args : Array Value} {below : List Frame} {meth : Method} {c : Code} {Q : State → Prop} {nm : String} {tb : List ExceptionTableEntry} (C : CX E p l s m args meth c cL_law 7 "TaktLineLaw" nm (some .boolean) tb) (hl : l.stackTraces = false) {b L : Nat} {xs : Nat → Int32} (hX : va_X b L xs s s.heap) (hbl : b < s.heap.size) (hbb : b < eB E) {h : Hp} {x m9 o : Nat} {i : Int32} {cc ss : Nat} (bc : cc ≤ 601024) (bs : ss ≤ 7293034) (hw : wp_law10 (eE E) L xs 601024 7293034 h x m9 o i cc ss (fun h_ c_ s_ => c_ ≤ 601024 → s_ ≤ 7293034 → WS E p l e room_1 s m args below meth c 7 Q h_ c_ s_ 1557 [(0, .ref b), (1, .ref x), (2, .ref m9), (3, .ref o), (4, .int i)] [])) : WS E p l e room_1 s m args below meth c 7 Q h cc ss 752 [(0, .ref b), (1, .ref x), (2, .ref m9), (3, .ref o), (4, .int i)] [] := by
  unfold wp_law10 at hw
  refine r_aload_n C dL_law_752 rfl rfl ?_
  refine r_aload_n C dL_law_753 rfl rfl ?_
  refine r_iload C dL_law_754 rfl ?_
  refine r_iconst (v := (1 : Int32)) C dL_law_756 (by decide) ?_
  refine r_iadd C dL_law_757 ?_
  obtain ⟨j1, f1, l1, k1, hw⟩ := hw
  refine a_S C hX hbl hbb f1 l1 k1 dL_law_758 ?_
  refine r_aload_n C dL_law_759 rfl rfl ?_
  obtain ⟨b3, d3, hw⟩ := hw
  refine r_callSW (As := [.ref x, .int (xs j1), .ref o]) (st := []) C (m_L_carAt hl hw) v_L_carAt w_687 rfl ⟨leb rfl, leb rfl⟩ ⟨b3, d3⟩ rfl (leb rfl) dL_law_760 (fun _ _ z => z.elim) (kkI (K := fun hK sK => WS E p l e room_1 s m args below meth c 7 Q hK (cc + 1) (ss + 6) (760 + 3) [(0, .ref b), (1, .ref x), (2, .ref m9), (3, .ref o), (4, .int i)] sK) (fun x2 h2 hv => ?_))
  replace hw := hv
  clear hv
  refine r_istore C dL_law_763 (by decide) [(0, .ref b), (1, .ref x), (2, .ref m9), (3, .ref o), (4, .int i), (5, .int x2)] ⟨rfl, rfl, rfl, rfl, rfl, rfl, trivial⟩ ?_
  refine r_aload_n C dL_law_765 rfl rfl ?_
  refine r_aload_n C dL_law_766 rfl rfl ?_
  refine r_iload C dL_law_767 rfl ?_
  refine r_iconst (v := (1 : Int32)) C dL_law_769 (by decide) ?_
  refine r_iadd C dL_law_770 ?_
  obtain ⟨j4, f4, l4, k4, hw⟩ := hw
  refine a_S C hX hbl hbb f4 l4 k4 dL_law_771 ?_
  obtain ⟨g6, hw⟩ := hw
  refine r_callV (As := [.int (xs j4)]) (st := []) C (m_X6_carAt hl hw) v_X6_carAt w_1088 K8 g6 (by decide) ob8 rfl ⟨leb rfl, leb rfl⟩ ⟨b3, d3⟩ rfl (leb rfl) dL_law_772 (fun _ _ z => z.elim) (kkI (K := fun hK sK => WS E p l e room_1 s m args below meth c 7 Q hK (cc + 1 + 0) (ss + 6 + 0) (772 + 3) [(0, .ref b), (1, .ref x), (2, .ref m9), (3, .ref o), (4, .int i), (5, .int x2)] sK) (fun x5 h5 hv => ?_))
  replace hw := hv
  clear hv
  refine r_istore C dL_law_775 (by decide) [(0, .ref b), (1, .ref x), (2, .ref m9), (3, .ref o), (4, .int i), (5, .int x2), (6, .int x5)] ⟨rfl, rfl, rfl, rfl, rfl, rfl, rfl, trivial⟩ ?_
  refine r_aload_n C dL_law_777 rfl rfl ?_
  obtain ⟨g8, hw⟩ := hw
  refine r_callV (As := []) (st := []) C (m_X6_thrown hl hw) v_X6_thrown w_905 K8 g8 (by decide) ob8 rfl ⟨leb rfl, leb rfl⟩ ⟨b3, d3⟩ rfl (leb rfl) dL_law_778 (fun _ _ z => z.elim) (kpI (K := fun hK sK => WS E p l e room_1 s m args below meth c 7 Q hK (cc + 1 + 0 + 0) (ss + 6 + 0 + 0) (778 + 3) [(0, .ref b), (1, .ref x), (2, .ref m9), (3, .ref o), (4, .int i), (5, .int x2), (6, .int x5)] sK) (fun x7 hv => ?_))
  replace hw := hv
  clear hv
  refine r_iload C dL_law_781 rfl ?_
  refine r_icmp_eq C 788 dL_law_783 (by decide) (fun z9 => ?_) (fun z9 => ?_)
  · replace hw := hw.1 z9
    refine r_iload C dL_law_788 rfl ?_
    replace hw := hw (WS E p l e room_1 s m args below meth c 7 Q h5 (cc + 1 + 0 + 0) (ss + 6 + 0 + 0) 805 [(0, .ref b), (1, .ref x), (2, .ref m9), (3, .ref o), (4, .int i)] []) (by
      intro hv
      replace hw := hv
      clear hv
      refine r_goto C 1557 dL_law_805 (by decide) ?_
      exact (r_subk (hw b3 d3) ⟨rfl, rfl, rfl, rfl, rfl, trivial⟩)
      )
    refine r_if_ne C 805 dL_law_790 (by decide) (fun z10 => ?_) (fun z10 => ?_)
    · replace hw := hw.2 z10
      exact (r_subk hw ⟨rfl, rfl, rfl, rfl, rfl, trivial⟩)
    · replace hw := hw.1 z10
      refine r_aload_n C dL_law_793 rfl rfl ?_
      refine r_iconst (v := (0 : Int32)) C dL_law_794 (by decide) ?_
      obtain ⟨g11, hw⟩ := hw
      obtain ⟨l12, hw⟩ := hw
      obtain ⟨x13, e13, hw⟩ := hw
      refine a_J C g11 (j := 0) rfl (by decide) l12 e13 dL_law_795 ?_
      refine r_iload C dL_law_796 rfl ?_
      refine r_i2l C dL_law_798 ?_
      refine r_lcmp C dL_law_799 ?_
      refine r_if_eq C 805 dL_law_800 (by decide) (fun z14 => ?_) (fun z14 => ?_)
      · replace hw := hw.1 z14
        exact (r_subk hw ⟨rfl, rfl, rfl, rfl, rfl, trivial⟩)
      · replace hw := hw.2 z14
        refine r_iconst (v := (0 : Int32)) C dL_law_803 (by decide) ?_
        exact hw.elim
  · replace hw := hw.2 z9
    refine r_iconst (v := (0 : Int32)) C dL_law_786 (by decide) ?_
    exact hw.elim

def wp_law11 (dE : Nat) (L : Nat) (xs : Nat → Int32) (mc ms : Nat) (h : Hp) (x m9 o : Nat) (i : Int32) (cc ss : Nat) (J : Hp → Nat → Nat → Prop) : Prop :=
(∃ j1 : Nat, i + (1 : Int32) = nI j1 ∧ j1 < 2147483648 ∧ j1 < L ∧
 (cc + 1 ≤ mc ∧
 (ss + 6 ≤ ms ∧
 wp_L_needs h x (xs j1) o (fun x2 h2 =>
 (∃ j4 : Nat, i + (1 : Int32) = nI j4 ∧ j4 < 2147483648 ∧ j4 < L ∧
 (hT h2 m9 = 8 ∧
 wp_X6_needs h2 m9 (xs j4) (fun x5 h5 =>
 (hT h5 m9 = 8 ∧
 wp_X6_thrown h5 m9 (fun x7 =>
 ((x7 = x2 →
 (∀ J861 : Prop, ((J h5 (cc + 1 + 0 + 0) (ss + 6 + 0 + 0)) → J861) →
 ((x2 = 0 →
 (hT h5 o = 22 ∧
 (0 < hL h5 o ∧
 (∃ x13 : Int64, hJ h5 o 0 = x13 ∧
 (((lg_cmp x13 x5.toInt64) = 0 →
 J861) ∧ (¬ ((lg_cmp x13 x5.toInt64) = 0) →
 False)))))) ∧ (¬ (x2 = 0) →
 J861)))) ∧ (¬ (x7 = x2) →
 False)))))))))))
set_option maxHeartbeats 4000000 in
set_option maxRecDepth 100000 in
theorem mc_law11 {E : Ev} {p : Program} {l : Launch} {e : Env} {s : State} {m : MethodId} {args : Array Value} {below : List Frame} {meth : Method} {c : Code} {Q : State → Prop} {nm : String} {tb : List ExceptionTableEntry} (C : CX E p l s m args meth c cL_law 7 "TaktLineLaw" nm (some .boolean) tb) (hl : l.stackTraces = false) {b L : Nat} {xs : Nat → Int32} (hX : va_X b L xs s s.heap) (hbl : b < s.heap.size) (hbb : b < eB E) {h : Hp} {x m9 o : Nat} {i : Int32} {cc ss : Nat} (bc : cc ≤ 601024) (bs : ss ≤ 7293034) (hw : wp_law11 (eE E) L xs 601024 7293034 h x m9 o i cc ss (fun h_ c_ s_ => c_ ≤ 601024 → s_ ≤ 7293034 → WS E p l e room_1 s m args below meth c 7 Q h_ c_ s_ 1557 [(0, .ref b), (1, .ref x), (2, .ref m9), (3, .ref o), (4, .int i)] [])) : WS E p l e room_1 s m args below meth c 7 Q h cc ss 808 [(0, .ref b), (1, .ref x), (2, .ref m9), (3, .ref o), (4, .int i)] [] := by
  unfold wp_law11 at hw
  refine r_aload_n C dL_law_808 rfl rfl ?_
  refine r_aload_n C dL_law_809 rfl rfl ?_
  refine r_iload C dL_law_810 rfl ?_
  refine r_iconst (v := (1 : Int32)) C dL_law_812 (by decide) ?_
  refine r_iadd C dL_law_813 ?_
  obtain ⟨j1, f1, l1, k1, hw⟩ := hw
  refine a_S C hX hbl hbb f1 l1 k1 dL_law_814 ?_
  refine r_aload_n C dL_law_815 rfl rfl ?_
  obtain ⟨b3, d3, hw⟩ := hw
  refine r_callSW (As := [.ref x, .int (xs j1), .ref o]) (st := []) C (m_L_needs hl hw) v_L_needs w_695 rfl ⟨leb rfl, leb rfl⟩ ⟨b3, d3⟩ rfl (leb rfl) dL_law_816 (fun _ _ z => z.elim) (kkI (K := fun hK sK => WS E p l e room_1 s m args below meth c 7 Q hK (cc + 1) (ss + 6) (816 + 3) [(0, .ref b), (1, .ref x), (2, .ref m9), (3, .ref o), (4, .int i)] sK) (fun x2 h2 hv => ?_))
  replace hw := hv
  clear hv
  refine r_istore C dL_law_819 (by decide) [(0, .ref b), (1, .ref x), (2, .ref m9), (3, .ref o), (4, .int i), (5, .int x2)] ⟨rfl, rfl, rfl, rfl, rfl, rfl, trivial⟩ ?_
  refine r_aload_n C dL_law_821 rfl rfl ?_
  refine r_aload_n C dL_law_822 rfl rfl ?_
  refine r_iload C dL_law_823 rfl ?_
  refine r_iconst (v := (1 : Int32)) C dL_law_825 (by decide) ?_
  refine r_iadd C dL_law_826 ?_
  obtain ⟨j4, f4, l4, k4, hw⟩ := hw
  refine a_S C hX hbl hbb f4 l4 k4 dL_law_827 ?_
  obtain ⟨g6, hw⟩ := hw
  refine r_callV (As := [.int (xs j4)]) (st := []) C (m_X6_needs hl hw) v_X6_needs w_939 K8 g6 (by decide) ob8 rfl ⟨leb rfl, leb rfl⟩ ⟨b3, d3⟩ rfl (leb rfl) dL_law_828 (fun _ _ z => z.elim) (kkI (K := fun hK sK => WS E p l e room_1 s m args below meth c 7 Q hK (cc + 1 + 0) (ss + 6 + 0) (828 + 3) [(0, .ref b), (1, .ref x), (2, .ref m9), (3, .ref o), (4, .int i), (5, .int x2)] sK) (fun x5 h5 hv => ?_))
  replace hw := hv
  clear hv
  refine r_istore C dL_law_831 (by decide) [(0, .ref b), (1, .ref x), (2, .ref m9), (3, .ref o), (4, .int i), (5, .int x2), (6, .int x5)] ⟨rfl, rfl, rfl, rfl, rfl, rfl, rfl, trivial⟩ ?_
  refine r_aload_n C dL_law_833 rfl rfl ?_
  obtain ⟨g8, hw⟩ := hw
  refine r_callV (As := []) (st := []) C (m_X6_thrown hl hw) v_X6_thrown w_905 K8 g8 (by decide) ob8 rfl ⟨leb rfl, leb rfl⟩ ⟨b3, d3⟩ rfl (leb rfl) dL_law_834 (fun _ _ z => z.elim) (kpI (K := fun hK sK => WS E p l e room_1 s m args below meth c 7 Q hK (cc + 1 + 0 + 0) (ss + 6 + 0 + 0) (834 + 3) [(0, .ref b), (1, .ref x), (2, .ref m9), (3, .ref o), (4, .int i), (5, .int x2), (6, .int x5)] sK) (fun x7 hv => ?_))
  replace hw := hv
  clear hv
  refine r_iload C dL_law_837 rfl ?_
  refine r_icmp_eq C 844 dL_law_839 (by decide) (fun z9 => ?_) (fun z9 => ?_)
  · replace hw := hw.1 z9
    refine r_iload C dL_law_844 rfl ?_
    replace hw := hw (WS E p l e room_1 s m args below meth c 7 Q h5 (cc + 1 + 0 + 0) (ss + 6 + 0 + 0) 861 [(0, .ref b), (1, .ref x), (2, .ref m9), (3, .ref o), (4, .int i)] []) (by
      intro hv
      replace hw := hv
      clear hv
      refine r_goto C 1557 dL_law_861 (by decide) ?_
      exact (r_subk (hw b3 d3) ⟨rfl, rfl, rfl, rfl, rfl, trivial⟩)
      )
    refine r_if_ne C 861 dL_law_846 (by decide) (fun z10 => ?_) (fun z10 => ?_)
    · replace hw := hw.2 z10
      exact (r_subk hw ⟨rfl, rfl, rfl, rfl, rfl, trivial⟩)
    · replace hw := hw.1 z10
      refine r_aload_n C dL_law_849 rfl rfl ?_
      refine r_iconst (v := (0 : Int32)) C dL_law_850 (by decide) ?_
      obtain ⟨g11, hw⟩ := hw
      obtain ⟨l12, hw⟩ := hw
      obtain ⟨x13, e13, hw⟩ := hw
      refine a_J C g11 (j := 0) rfl (by decide) l12 e13 dL_law_851 ?_
      refine r_iload C dL_law_852 rfl ?_
      refine r_i2l C dL_law_854 ?_
      refine r_lcmp C dL_law_855 ?_
      refine r_if_eq C 861 dL_law_856 (by decide) (fun z14 => ?_) (fun z14 => ?_)
      · replace hw := hw.1 z14
        exact (r_subk hw ⟨rfl, rfl, rfl, rfl, rfl, trivial⟩)
      · replace hw := hw.2 z14
        refine r_iconst (v := (0 : Int32)) C dL_law_859 (by decide) ?_
        exact hw.elim
  · replace hw := hw.2 z9
    refine r_iconst (v := (0 : Int32)) C dL_law_842 (by decide) ?_
    exact hw.elim

def wp_law12 (dE : Nat) (L : Nat) (xs : Nat → Int32) (mc ms : Nat) (h : Hp) (x m9 o : Nat) (i : Int32) (cc ss : Nat) (J : Hp → Nat → Nat → Prop) : Prop :=
(∃ j1 : Nat, i + (1 : Int32) = nI j1 ∧ j1 < 2147483648 ∧ j1 < L ∧
 (cc + 1 ≤ mc ∧
 (ss + 6 ≤ ms ∧
 wp_L_lacks h x (xs j1) o (fun x2 h2 =>
 (∃ j4 : Nat, i + (1 : Int32) = nI j4 ∧ j4 < 2147483648 ∧ j4 < L ∧
 (hT h2 m9 = 8 ∧
 wp_X6_lacks h2 m9 (xs j4) (fun x5 h5 =>
 (hT h5 m9 = 8 ∧
 wp_X6_thrown h5 m9 (fun x7 =>
 ((x7 = x2 →
 (∀ J917 : Prop, ((J h5 (cc + 1 + 0 + 0) (ss + 6 + 0 + 0)) → J917) →
 ((x2 = 0 →
 (hT h5 o = 22 ∧
 (0 < hL h5 o ∧
 (∃ x13 : Int64, hJ h5 o 0 = x13 ∧
 (((lg_cmp x13 x5.toInt64) = 0 →
 J917) ∧ (¬ ((lg_cmp x13 x5.toInt64) = 0) →
 False)))))) ∧ (¬ (x2 = 0) →
 J917)))) ∧ (¬ (x7 = x2) →
 False)))))))))))
set_option maxHeartbeats 4000000 in
set_option maxRecDepth 100000 in
theorem mc_law12 {E : Ev} {p : Program} {l : Launch} {e : Env} {s : State} {m : MethodId} {args : Array Value} {below : List Frame} {meth : Method} {c : Code} {Q : State → Prop} {nm : String} {tb : List ExceptionTableEntry} (C : CX E p l s m args meth c cL_law 7 "TaktLineLaw" nm (some .boolean) tb) (hl : l.stackTraces = false) {b L : Nat} {xs : Nat → Int32} (hX : va_X b L xs s s.heap) (hbl : b < s.heap.size) (hbb : b < eB E) {h : Hp} {x m9 o : Nat} {i : Int32} {cc ss : Nat} (bc : cc ≤ 601024) (bs : ss ≤ 7293034) (hw : wp_law12 (eE E) L xs 601024 7293034 h x m9 o i cc ss (fun h_ c_ s_ => c_ ≤ 601024 → s_ ≤ 7293034 → WS E p l e room_1 s m args below meth c 7 Q h_ c_ s_ 1557 [(0, .ref b), (1, .ref x), (2, .ref m9), (3, .ref o), (4, .int i)] [])) : WS E p l e room_1 s m args below meth c 7 Q h cc ss 864 [(0, .ref b), (1, .ref x), (2, .ref m9), (3, .ref o), (4, .int i)] [] := by
  unfold wp_law12 at hw
  refine r_aload_n C dL_law_864 rfl rfl ?_
  refine r_aload_n C dL_law_865 rfl rfl ?_
  refine r_iload C dL_law_866 rfl ?_
  refine r_iconst (v := (1 : Int32)) C dL_law_868 (by decide) ?_
  refine r_iadd C dL_law_869 ?_
  obtain ⟨j1, f1, l1, k1, hw⟩ := hw
  refine a_S C hX hbl hbb f1 l1 k1 dL_law_870 ?_
  refine r_aload_n C dL_law_871 rfl rfl ?_
  obtain ⟨b3, d3, hw⟩ := hw
  refine r_callSW (As := [.ref x, .int (xs j1), .ref o]) (st := []) C (m_L_lacks hl hw) v_L_lacks w_706 rfl ⟨leb rfl, leb rfl⟩ ⟨b3, d3⟩ rfl (leb rfl) dL_law_872 (fun _ _ z => z.elim) (kkI (K := fun hK sK => WS E p l e room_1 s m args below meth c 7 Q hK (cc + 1) (ss + 6) (872 + 3) [(0, .ref b), (1, .ref x), (2, .ref m9), (3, .ref o), (4, .int i)] sK) (fun x2 h2 hv => ?_))
  replace hw := hv
  clear hv
  refine r_istore C dL_law_875 (by decide) [(0, .ref b), (1, .ref x), (2, .ref m9), (3, .ref o), (4, .int i), (5, .int x2)] ⟨rfl, rfl, rfl, rfl, rfl, rfl, trivial⟩ ?_
  refine r_aload_n C dL_law_877 rfl rfl ?_
  refine r_aload_n C dL_law_878 rfl rfl ?_
  refine r_iload C dL_law_879 rfl ?_
  refine r_iconst (v := (1 : Int32)) C dL_law_881 (by decide) ?_
  refine r_iadd C dL_law_882 ?_
  obtain ⟨j4, f4, l4, k4, hw⟩ := hw
  refine a_S C hX hbl hbb f4 l4 k4 dL_law_883 ?_
  obtain ⟨g6, hw⟩ := hw
  refine r_callV (As := [.int (xs j4)]) (st := []) C (m_X6_lacks hl hw) v_X6_lacks w_951 K8 g6 (by decide) ob8 rfl ⟨leb rfl, leb rfl⟩ ⟨b3, d3⟩ rfl (leb rfl) dL_law_884 (fun _ _ z => z.elim) (kkI (K := fun hK sK => WS E p l e room_1 s m args below meth c 7 Q hK (cc + 1 + 0) (ss + 6 + 0) (884 + 3) [(0, .ref b), (1, .ref x), (2, .ref m9), (3, .ref o), (4, .int i), (5, .int x2)] sK) (fun x5 h5 hv => ?_))
  replace hw := hv
  clear hv
  refine r_istore C dL_law_887 (by decide) [(0, .ref b), (1, .ref x), (2, .ref m9), (3, .ref o), (4, .int i), (5, .int x2), (6, .int x5)] ⟨rfl, rfl, rfl, rfl, rfl, rfl, rfl, trivial⟩ ?_
  refine r_aload_n C dL_law_889 rfl rfl ?_
  obtain ⟨g8, hw⟩ := hw
  refine r_callV (As := []) (st := []) C (m_X6_thrown hl hw) v_X6_thrown w_905 K8 g8 (by decide) ob8 rfl ⟨leb rfl, leb rfl⟩ ⟨b3, d3⟩ rfl (leb rfl) dL_law_890 (fun _ _ z => z.elim) (kpI (K := fun hK sK => WS E p l e room_1 s m args below meth c 7 Q hK (cc + 1 + 0 + 0) (ss + 6 + 0 + 0) (890 + 3) [(0, .ref b), (1, .ref x), (2, .ref m9), (3, .ref o), (4, .int i), (5, .int x2), (6, .int x5)] sK) (fun x7 hv => ?_))
  replace hw := hv
  clear hv
  refine r_iload C dL_law_893 rfl ?_
  refine r_icmp_eq C 900 dL_law_895 (by decide) (fun z9 => ?_) (fun z9 => ?_)
  · replace hw := hw.1 z9
    refine r_iload C dL_law_900 rfl ?_
    replace hw := hw (WS E p l e room_1 s m args below meth c 7 Q h5 (cc + 1 + 0 + 0) (ss + 6 + 0 + 0) 917 [(0, .ref b), (1, .ref x), (2, .ref m9), (3, .ref o), (4, .int i)] []) (by
      intro hv
      replace hw := hv
      clear hv
      refine r_goto C 1557 dL_law_917 (by decide) ?_
      exact (r_subk (hw b3 d3) ⟨rfl, rfl, rfl, rfl, rfl, trivial⟩)
      )
    refine r_if_ne C 917 dL_law_902 (by decide) (fun z10 => ?_) (fun z10 => ?_)
    · replace hw := hw.2 z10
      exact (r_subk hw ⟨rfl, rfl, rfl, rfl, rfl, trivial⟩)
    · replace hw := hw.1 z10
      refine r_aload_n C dL_law_905 rfl rfl ?_
      refine r_iconst (v := (0 : Int32)) C dL_law_906 (by decide) ?_
      obtain ⟨g11, hw⟩ := hw
      obtain ⟨l12, hw⟩ := hw
      obtain ⟨x13, e13, hw⟩ := hw
      refine a_J C g11 (j := 0) rfl (by decide) l12 e13 dL_law_907 ?_
      refine r_iload C dL_law_908 rfl ?_
      refine r_i2l C dL_law_910 ?_
      refine r_lcmp C dL_law_911 ?_
      refine r_if_eq C 917 dL_law_912 (by decide) (fun z14 => ?_) (fun z14 => ?_)
      · replace hw := hw.1 z14
        exact (r_subk hw ⟨rfl, rfl, rfl, rfl, rfl, trivial⟩)
      · replace hw := hw.2 z14
        refine r_iconst (v := (0 : Int32)) C dL_law_915 (by decide) ?_
        exact hw.elim
  · replace hw := hw.2 z9
    refine r_iconst (v := (0 : Int32)) C dL_law_898 (by decide) ?_
    exact hw.elim

def wp_law13 (dE : Nat) (L : Nat) (xs : Nat → Int32) (mc ms : Nat) (h : Hp) (x m9 o : Nat) (i : Int32) (cc ss : Nat) (J : Hp → Nat → Nat → Prop) : Prop :=
(∃ j1 : Nat, i + (1 : Int32) = nI j1 ∧ j1 < 2147483648 ∧ j1 < L ∧
 (∃ j2 : Nat, i + (2 : Int32) = nI j2 ∧ j2 < 2147483648 ∧ j2 < L ∧
 (cc + 2 ≤ mc ∧
 (ss + 12 ≤ ms ∧
 wp_L_lotIn h x (xs j1) (xs j2) o (fun x3 h3 =>
 (∃ j5 : Nat, i + (1 : Int32) = nI j5 ∧ j5 < 2147483648 ∧ j5 < L ∧
 (∃ j6 : Nat, i + (2 : Int32) = nI j6 ∧ j6 < 2147483648 ∧ j6 < L ∧
 (hT h3 m9 = 8 ∧
 wp_X6_lotIn h3 m9 (xs j5) (xs j6) (fun x7 h7 =>
 (hT h7 m9 = 8 ∧
 wp_X6_thrown h7 m9 (fun x9 =>
 ((x9 = x3 →
 (∀ J985 : Prop, ((J h7 (cc + 2 + 0 + 0) (ss + 12 + 0 + 0)) → J985) →
 ((x3 = 0 →
 (hT h7 o = 22 ∧
 (0 < hL h7 o ∧
 (∃ x15 : Int64, hJ h7 o 0 = x15 ∧
 (((lg_cmp x15 x7.toInt64) = 0 →
 J985) ∧ (¬ ((lg_cmp x15 x7.toInt64) = 0) →
 False)))))) ∧ (¬ (x3 = 0) →
 J985)))) ∧ (¬ (x9 = x3) →
 False)))))))))))))
set_option maxHeartbeats 4000000 in
set_option maxRecDepth 100000 in
theorem mc_law13 {E : Ev} {p : Program} {l : Launch} {e : Env} {s : State} {m : MethodId} {args : Array Value} {below : List Frame} {meth : Method} {c : Code} {Q : State → Prop} {nm : String} {tb : List ExceptionTableEntry} (C : CX E p l s m args meth c cL_law 7 "TaktLineLaw" nm (some .boolean) tb) (hl : l.stackTraces = false) {b L : Nat} {xs : Nat → Int32} (hX : va_X b L xs s s.heap) (hbl : b < s.heap.size) (hbb : b < eB E) {h : Hp} {x m9 o : Nat} {i : Int32} {cc ss : Nat} (bc : cc ≤ 601024) (bs : ss ≤ 7293034) (hw : wp_law13 (eE E) L xs 601024 7293034 h x m9 o i cc ss (fun h_ c_ s_ => c_ ≤ 601024 → s_ ≤ 7293034 → WS E p l e room_1 s m args below meth c 7 Q h_ c_ s_ 1557 [(0, .ref b), (1, .ref x), (2, .ref m9), (3, .ref o), (4, .int i)] [])) : WS E p l e room_1 s m args below meth c 7 Q h cc ss 920 [(0, .ref b), (1, .ref x), (2, .ref m9), (3, .ref o), (4, .int i)] [] := by
  unfold wp_law13 at hw
  refine r_aload_n C dL_law_920 rfl rfl ?_
  refine r_aload_n C dL_law_921 rfl rfl ?_
  refine r_iload C dL_law_922 rfl ?_
  refine r_iconst (v := (1 : Int32)) C dL_law_924 (by decide) ?_
  refine r_iadd C dL_law_925 ?_
  obtain ⟨j1, f1, l1, k1, hw⟩ := hw
  refine a_S C hX hbl hbb f1 l1 k1 dL_law_926 ?_
  refine r_aload_n C dL_law_927 rfl rfl ?_
  refine r_iload C dL_law_928 rfl ?_
  refine r_iconst (v := (2 : Int32)) C dL_law_930 (by decide) ?_
  refine r_iadd C dL_law_931 ?_
  obtain ⟨j2, f2, l2, k2, hw⟩ := hw
  refine a_S C hX hbl hbb f2 l2 k2 dL_law_932 ?_
  refine r_aload_n C dL_law_933 rfl rfl ?_
  obtain ⟨b4, d4, hw⟩ := hw
  refine r_callSW (As := [.ref x, .int (xs j1), .int (xs j2), .ref o]) (st := []) C (m_L_lotIn hl hw) v_L_lotIn w_713 rfl ⟨leb rfl, leb rfl⟩ ⟨b4, d4⟩ rfl (leb rfl) dL_law_934 (fun _ _ z => z.elim) (kkI (K := fun hK sK => WS E p l e room_1 s m args below meth c 7 Q hK (cc + 2) (ss + 12) (934 + 3) [(0, .ref b), (1, .ref x), (2, .ref m9), (3, .ref o), (4, .int i)] sK) (fun x3 h3 hv => ?_))
  replace hw := hv
  clear hv
  refine r_istore C dL_law_937 (by decide) [(0, .ref b), (1, .ref x), (2, .ref m9), (3, .ref o), (4, .int i), (5, .int x3)] ⟨rfl, rfl, rfl, rfl, rfl, rfl, trivial⟩ ?_
  refine r_aload_n C dL_law_939 rfl rfl ?_
  refine r_aload_n C dL_law_940 rfl rfl ?_
  refine r_iload C dL_law_941 rfl ?_
  refine r_iconst (v := (1 : Int32)) C dL_law_943 (by decide) ?_
  refine r_iadd C dL_law_944 ?_
  obtain ⟨j5, f5, l5, k5, hw⟩ := hw
  refine a_S C hX hbl hbb f5 l5 k5 dL_law_945 ?_
  refine r_aload_n C dL_law_946 rfl rfl ?_
  refine r_iload C dL_law_947 rfl ?_
  refine r_iconst (v := (2 : Int32)) C dL_law_949 (by decide) ?_
  refine r_iadd C dL_law_950 ?_
  obtain ⟨j6, f6, l6, k6, hw⟩ := hw
  refine a_S C hX hbl hbb f6 l6 k6 dL_law_951 ?_
  obtain ⟨g8, hw⟩ := hw
  refine r_callV (As := [.int (xs j5), .int (xs j6)]) (st := []) C (m_X6_lotIn hl hw) v_X6_lotIn w_963 K8 g8 (by decide) ob8 rfl ⟨leb rfl, leb rfl⟩ ⟨b4, d4⟩ rfl (leb rfl) dL_law_952 (fun _ _ z => z.elim) (kkI (K := fun hK sK => WS E p l e room_1 s m args below meth c 7 Q hK (cc + 2 + 0) (ss + 12 + 0) (952 + 3) [(0, .ref b), (1, .ref x), (2, .ref m9), (3, .ref o), (4, .int i), (5, .int x3)] sK) (fun x7 h7 hv => ?_))
  replace hw := hv
  clear hv
  refine r_istore C dL_law_955 (by decide) [(0, .ref b), (1, .ref x), (2, .ref m9), (3, .ref o), (4, .int i), (5, .int x3), (6, .int x7)] ⟨rfl, rfl, rfl, rfl, rfl, rfl, rfl, trivial⟩ ?_
  refine r_aload_n C dL_law_957 rfl rfl ?_
  obtain ⟨g10, hw⟩ := hw
  refine r_callV (As := []) (st := []) C (m_X6_thrown hl hw) v_X6_thrown w_905 K8 g10 (by decide) ob8 rfl ⟨leb rfl, leb rfl⟩ ⟨b4, d4⟩ rfl (leb rfl) dL_law_958 (fun _ _ z => z.elim) (kpI (K := fun hK sK => WS E p l e room_1 s m args below meth c 7 Q hK (cc + 2 + 0 + 0) (ss + 12 + 0 + 0) (958 + 3) [(0, .ref b), (1, .ref x), (2, .ref m9), (3, .ref o), (4, .int i), (5, .int x3), (6, .int x7)] sK) (fun x9 hv => ?_))
  replace hw := hv
  clear hv
  refine r_iload C dL_law_961 rfl ?_
  refine r_icmp_eq C 968 dL_law_963 (by decide) (fun z11 => ?_) (fun z11 => ?_)
  · replace hw := hw.1 z11
    refine r_iload C dL_law_968 rfl ?_
    replace hw := hw (WS E p l e room_1 s m args below meth c 7 Q h7 (cc + 2 + 0 + 0) (ss + 12 + 0 + 0) 985 [(0, .ref b), (1, .ref x), (2, .ref m9), (3, .ref o), (4, .int i)] []) (by
      intro hv
      replace hw := hv
      clear hv
      refine r_goto C 1557 dL_law_985 (by decide) ?_
      exact (r_subk (hw b4 d4) ⟨rfl, rfl, rfl, rfl, rfl, trivial⟩)
      )
    refine r_if_ne C 985 dL_law_970 (by decide) (fun z12 => ?_) (fun z12 => ?_)
    · replace hw := hw.2 z12
      exact (r_subk hw ⟨rfl, rfl, rfl, rfl, rfl, trivial⟩)
    · replace hw := hw.1 z12
      refine r_aload_n C dL_law_973 rfl rfl ?_
      refine r_iconst (v := (0 : Int32)) C dL_law_974 (by decide) ?_
      obtain ⟨g13, hw⟩ := hw
      obtain ⟨l14, hw⟩ := hw
      obtain ⟨x15, e15, hw⟩ := hw
      refine a_J C g13 (j := 0) rfl (by decide) l14 e15 dL_law_975 ?_
      refine r_iload C dL_law_976 rfl ?_
      refine r_i2l C dL_law_978 ?_
      refine r_lcmp C dL_law_979 ?_
      refine r_if_eq C 985 dL_law_980 (by decide) (fun z16 => ?_) (fun z16 => ?_)
      · replace hw := hw.1 z16
        exact (r_subk hw ⟨rfl, rfl, rfl, rfl, rfl, trivial⟩)
      · replace hw := hw.2 z16
        refine r_iconst (v := (0 : Int32)) C dL_law_983 (by decide) ?_
        exact hw.elim
  · replace hw := hw.2 z11
    refine r_iconst (v := (0 : Int32)) C dL_law_966 (by decide) ?_
    exact hw.elim

def wp_law14 (dE : Nat) (L : Nat) (xs : Nat → Int32) (mc ms : Nat) (h : Hp) (x m9 o : Nat) (i : Int32) (cc ss : Nat) (J : Hp → Nat → Nat → Prop) : Prop :=
(∃ j1 : Nat, i + (1 : Int32) = nI j1 ∧ j1 < 2147483648 ∧ j1 < L ∧
 (∃ j2 : Nat, i + (2 : Int32) = nI j2 ∧ j2 < 2147483648 ∧ j2 < L ∧
 (cc + 2 ≤ mc ∧
 (ss + 12 ≤ ms ∧
 wp_L_lotByPicks h x (xs j1) (xs j2) o (fun x3 h3 =>
 (∃ j5 : Nat, i + (1 : Int32) = nI j5 ∧ j5 < 2147483648 ∧ j5 < L ∧
 (∃ j6 : Nat, i + (2 : Int32) = nI j6 ∧ j6 < 2147483648 ∧ j6 < L ∧
 (hT h3 m9 = 8 ∧
 wp_X6_lotByPicks h3 m9 (xs j5) (xs j6) (fun x7 h7 =>
 (hT h7 m9 = 8 ∧
 wp_X6_thrown h7 m9 (fun x9 =>
 ((x9 = x3 →
 (∀ J1053 : Prop, ((J h7 (cc + 2 + 0 + 0) (ss + 12 + 0 + 0)) → J1053) →
 ((x3 = 0 →
 (hT h7 o = 22 ∧
 (0 < hL h7 o ∧
 (∃ x15 : Int64, hJ h7 o 0 = x15 ∧
 (((lg_cmp x15 x7.toInt64) = 0 →
 J1053) ∧ (¬ ((lg_cmp x15 x7.toInt64) = 0) →
 False)))))) ∧ (¬ (x3 = 0) →
 J1053)))) ∧ (¬ (x9 = x3) →
 False)))))))))))))
set_option maxHeartbeats 4000000 in
set_option maxRecDepth 100000 in
theorem mc_law14 {E : Ev} {p : Program} {l : Launch} {e : Env} {s : State} {m : MethodId} {args : Array Value} {below : List Frame} {meth : Method} {c : Code} {Q : State → Prop} {nm : String} {tb : List ExceptionTableEntry} (C : CX E p l s m args meth c cL_law 7 "TaktLineLaw" nm (some .boolean) tb) (hl : l.stackTraces = false) {b L : Nat} {xs : Nat → Int32} (hX : va_X b L xs s s.heap) (hbl : b < s.heap.size) (hbb : b < eB E) {h : Hp} {x m9 o : Nat} {i : Int32} {cc ss : Nat} (bc : cc ≤ 601024) (bs : ss ≤ 7293034) (hw : wp_law14 (eE E) L xs 601024 7293034 h x m9 o i cc ss (fun h_ c_ s_ => c_ ≤ 601024 → s_ ≤ 7293034 → WS E p l e room_1 s m args below meth c 7 Q h_ c_ s_ 1557 [(0, .ref b), (1, .ref x), (2, .ref m9), (3, .ref o), (4, .int i)] [])) : WS E p l e room_1 s m args below meth c 7 Q h cc ss 988 [(0, .ref b), (1, .ref x), (2, .ref m9), (3, .ref o), (4, .int i)] [] := by
  unfold wp_law14 at hw
  refine r_aload_n C dL_law_988 rfl rfl ?_
  refine r_aload_n C dL_law_989 rfl rfl ?_
  refine r_iload C dL_law_990 rfl ?_
  refine r_iconst (v := (1 : Int32)) C dL_law_992 (by decide) ?_
  refine r_iadd C dL_law_993 ?_
  obtain ⟨j1, f1, l1, k1, hw⟩ := hw
  refine a_S C hX hbl hbb f1 l1 k1 dL_law_994 ?_
  refine r_aload_n C dL_law_995 rfl rfl ?_
  refine r_iload C dL_law_996 rfl ?_
  refine r_iconst (v := (2 : Int32)) C dL_law_998 (by decide) ?_
  refine r_iadd C dL_law_999 ?_
  obtain ⟨j2, f2, l2, k2, hw⟩ := hw
  refine a_S C hX hbl hbb f2 l2 k2 dL_law_1000 ?_
  refine r_aload_n C dL_law_1001 rfl rfl ?_
  obtain ⟨b4, d4, hw⟩ := hw
  refine r_callSW (As := [.ref x, .int (xs j1), .int (xs j2), .ref o]) (st := []) C (m_L_lotByPicks hl hw) v_L_lotByPicks w_720 rfl ⟨leb rfl, leb rfl⟩ ⟨b4, d4⟩ rfl (leb rfl) dL_law_1002 (fun _ _ z => z.elim) (kkI (K := fun hK sK => WS E p l e room_1 s m args below meth c 7 Q hK (cc + 2) (ss + 12) (1002 + 3) [(0, .ref b), (1, .ref x), (2, .ref m9), (3, .ref o), (4, .int i)] sK) (fun x3 h3 hv => ?_))
  replace hw := hv
  clear hv
  refine r_istore C dL_law_1005 (by decide) [(0, .ref b), (1, .ref x), (2, .ref m9), (3, .ref o), (4, .int i), (5, .int x3)] ⟨rfl, rfl, rfl, rfl, rfl, rfl, trivial⟩ ?_
  refine r_aload_n C dL_law_1007 rfl rfl ?_
  refine r_aload_n C dL_law_1008 rfl rfl ?_
  refine r_iload C dL_law_1009 rfl ?_
  refine r_iconst (v := (1 : Int32)) C dL_law_1011 (by decide) ?_
  refine r_iadd C dL_law_1012 ?_
  obtain ⟨j5, f5, l5, k5, hw⟩ := hw
  refine a_S C hX hbl hbb f5 l5 k5 dL_law_1013 ?_
  refine r_aload_n C dL_law_1014 rfl rfl ?_
  refine r_iload C dL_law_1015 rfl ?_
  refine r_iconst (v := (2 : Int32)) C dL_law_1017 (by decide) ?_
  refine r_iadd C dL_law_1018 ?_
  obtain ⟨j6, f6, l6, k6, hw⟩ := hw
  refine a_S C hX hbl hbb f6 l6 k6 dL_law_1019 ?_
  obtain ⟨g8, hw⟩ := hw
  refine r_callV (As := [.int (xs j5), .int (xs j6)]) (st := []) C (m_X6_lotByPicks hl hw) v_X6_lotByPicks w_971 K8 g8 (by decide) ob8 rfl ⟨leb rfl, leb rfl⟩ ⟨b4, d4⟩ rfl (leb rfl) dL_law_1020 (fun _ _ z => z.elim) (kkI (K := fun hK sK => WS E p l e room_1 s m args below meth c 7 Q hK (cc + 2 + 0) (ss + 12 + 0) (1020 + 3) [(0, .ref b), (1, .ref x), (2, .ref m9), (3, .ref o), (4, .int i), (5, .int x3)] sK) (fun x7 h7 hv => ?_))
  replace hw := hv
  clear hv
  refine r_istore C dL_law_1023 (by decide) [(0, .ref b), (1, .ref x), (2, .ref m9), (3, .ref o), (4, .int i), (5, .int x3), (6, .int x7)] ⟨rfl, rfl, rfl, rfl, rfl, rfl, rfl, trivial⟩ ?_
  refine r_aload_n C dL_law_1025 rfl rfl ?_
  obtain ⟨g10, hw⟩ := hw
  refine r_callV (As := []) (st := []) C (m_X6_thrown hl hw) v_X6_thrown w_905 K8 g10 (by decide) ob8 rfl ⟨leb rfl, leb rfl⟩ ⟨b4, d4⟩ rfl (leb rfl) dL_law_1026 (fun _ _ z => z.elim) (kpI (K := fun hK sK => WS E p l e room_1 s m args below meth c 7 Q hK (cc + 2 + 0 + 0) (ss + 12 + 0 + 0) (1026 + 3) [(0, .ref b), (1, .ref x), (2, .ref m9), (3, .ref o), (4, .int i), (5, .int x3), (6, .int x7)] sK) (fun x9 hv => ?_))
  replace hw := hv
  clear hv
  refine r_iload C dL_law_1029 rfl ?_
  refine r_icmp_eq C 1036 dL_law_1031 (by decide) (fun z11 => ?_) (fun z11 => ?_)
  · replace hw := hw.1 z11
    refine r_iload C dL_law_1036 rfl ?_
    replace hw := hw (WS E p l e room_1 s m args below meth c 7 Q h7 (cc + 2 + 0 + 0) (ss + 12 + 0 + 0) 1053 [(0, .ref b), (1, .ref x), (2, .ref m9), (3, .ref o), (4, .int i)] []) (by
      intro hv
      replace hw := hv
      clear hv
      refine r_goto C 1557 dL_law_1053 (by decide) ?_
      exact (r_subk (hw b4 d4) ⟨rfl, rfl, rfl, rfl, rfl, trivial⟩)
      )
    refine r_if_ne C 1053 dL_law_1038 (by decide) (fun z12 => ?_) (fun z12 => ?_)
    · replace hw := hw.2 z12
      exact (r_subk hw ⟨rfl, rfl, rfl, rfl, rfl, trivial⟩)
    · replace hw := hw.1 z12
      refine r_aload_n C dL_law_1041 rfl rfl ?_
      refine r_iconst (v := (0 : Int32)) C dL_law_1042 (by decide) ?_
      obtain ⟨g13, hw⟩ := hw
      obtain ⟨l14, hw⟩ := hw
      obtain ⟨x15, e15, hw⟩ := hw
      refine a_J C g13 (j := 0) rfl (by decide) l14 e15 dL_law_1043 ?_
      refine r_iload C dL_law_1044 rfl ?_
      refine r_i2l C dL_law_1046 ?_
      refine r_lcmp C dL_law_1047 ?_
      refine r_if_eq C 1053 dL_law_1048 (by decide) (fun z16 => ?_) (fun z16 => ?_)
      · replace hw := hw.1 z16
        exact (r_subk hw ⟨rfl, rfl, rfl, rfl, rfl, trivial⟩)
      · replace hw := hw.2 z16
        refine r_iconst (v := (0 : Int32)) C dL_law_1051 (by decide) ?_
        exact hw.elim
  · replace hw := hw.2 z11
    refine r_iconst (v := (0 : Int32)) C dL_law_1034 (by decide) ?_
    exact hw.elim

def wp_law15 (dE : Nat) (L : Nat) (xs : Nat → Int32) (mc ms : Nat) (h : Hp) (x m9 o : Nat) (i : Int32) (cc ss : Nat) (J : Hp → Nat → Nat → Prop) : Prop :=
(hT h x = 7 ∧
 wp_X5_scrapped h x (fun x1 =>
 (hT h m9 = 8 ∧
 wp_X6_scrapped h m9 (fun x3 h3 =>
 ((x1 = x3 →
 J h3 (cc + 0 + 0) (ss + 0 + 0)) ∧ (¬ (x1 = x3) →
 False))))))
set_option maxHeartbeats 4000000 in
set_option maxRecDepth 100000 in
theorem mc_law15 {E : Ev} {p : Program} {l : Launch} {e : Env} {s : State} {m : MethodId} {args : Array Value} {below : List Frame} {meth : Method} {c : Code} {Q : State → Prop} {nm : String} {tb : List ExceptionTableEntry} (C : CX E p l s m args meth c cL_law 7 "TaktLineLaw" nm (some .boolean) tb) (hl : l.stackTraces = false) {b L : Nat} {xs : Nat → Int32} (hX : va_X b L xs s s.heap) (hbl : b < s.heap.size) (hbb : b < eB E) {h : Hp} {x m9 o : Nat} {i : Int32} {cc ss : Nat} (bc : cc ≤ 601024) (bs : ss ≤ 7293034) (hw : wp_law15 (eE E) L xs 601024 7293034 h x m9 o i cc ss (fun h_ c_ s_ => c_ ≤ 601024 → s_ ≤ 7293034 → WS E p l e room_1 s m args below meth c 7 Q h_ c_ s_ 1557 [(0, .ref b), (1, .ref x), (2, .ref m9), (3, .ref o), (4, .int i)] [])) : WS E p l e room_1 s m args below meth c 7 Q h cc ss 1056 [(0, .ref b), (1, .ref x), (2, .ref m9), (3, .ref o), (4, .int i)] [] := by
  unfold wp_law15 at hw
  refine r_aload_n C dL_law_1056 rfl rfl ?_
  obtain ⟨g2, hw⟩ := hw
  refine r_callV (As := []) (st := []) C (m_X5_scrapped hl hw) v_X5_scrapped w_172 K7 g2 (by decide) ob7 rfl ⟨leb rfl, leb rfl⟩ ⟨bc, bs⟩ rfl (leb rfl) dL_law_1057 (fun _ _ z => z.elim) (kpI (K := fun hK sK => WS E p l e room_1 s m args below meth c 7 Q hK (cc + 0) (ss + 0) (1057 + 3) [(0, .ref b), (1, .ref x), (2, .ref m9), (3, .ref o), (4, .int i)] sK) (fun x1 hv => ?_))
  replace hw := hv
  clear hv
  refine r_aload_n C dL_law_1060 rfl rfl ?_
  obtain ⟨g4, hw⟩ := hw
  refine r_callV (As := []) (st := [.int x1]) C (m_X6_scrapped hl hw) v_X6_scrapped w_972 K8 g4 (by decide) ob8 rfl ⟨leb rfl, leb rfl⟩ ⟨bc, bs⟩ rfl (leb rfl) dL_law_1061 (fun _ _ z => z.elim) (kkI (K := fun hK sK => WS E p l e room_1 s m args below meth c 7 Q hK (cc + 0 + 0) (ss + 0 + 0) (1061 + 3) [(0, .ref b), (1, .ref x), (2, .ref m9), (3, .ref o), (4, .int i)] sK) (fun x3 h3 hv => ?_))
  replace hw := hv
  clear hv
  refine r_icmp_eq C 1557 dL_law_1064 (by decide) (fun z5 => ?_) (fun z5 => ?_)
  · replace hw := hw.1 z5
    exact (r_subk (hw bc bs) ⟨rfl, rfl, rfl, rfl, rfl, trivial⟩)
  · replace hw := hw.2 z5
    refine r_iconst (v := (0 : Int32)) C dL_law_1067 (by decide) ?_
    exact hw.elim

def wp_law16 (dE : Nat) (L : Nat) (xs : Nat → Int32) (mc ms : Nat) (h : Hp) (x m9 o : Nat) (i : Int32) (cc ss : Nat) (J : Hp → Nat → Nat → Prop) : Prop :=
(∃ j1 : Nat, i + (1 : Int32) = nI j1 ∧ j1 < 2147483648 ∧ j1 < L ∧
 (cc + 4 ≤ mc ∧
 (ss + 68 ≤ ms ∧
 wp_L_build dE h x (xs j1) o (fun x2 h2 =>
 (∃ j4 : Nat, i + (1 : Int32) = nI j4 ∧ j4 < 2147483648 ∧ j4 < L ∧
 (hT h2 m9 = 8 ∧
 wp_X6_build h2 m9 (xs j4) (fun x5 h5 =>
 (hT h5 m9 = 8 ∧
 wp_X6_thrown h5 m9 (fun x7 =>
 ((x7 = x2 →
 (∀ J1122 : Prop, ((J h5 (cc + 4 + 0 + 0) (ss + 68 + 0 + 0)) → J1122) →
 ((x2 = 0 →
 (hT h5 o = 22 ∧
 (0 < hL h5 o ∧
 (∃ x13 : Int64, hJ h5 o 0 = x13 ∧
 (((lg_cmp x13 x5.toInt64) = 0 →
 J1122) ∧ (¬ ((lg_cmp x13 x5.toInt64) = 0) →
 False)))))) ∧ (¬ (x2 = 0) →
 J1122)))) ∧ (¬ (x7 = x2) →
 False)))))))))))
set_option maxHeartbeats 4000000 in
set_option maxRecDepth 100000 in
theorem mc_law16 {E : Ev} {p : Program} {l : Launch} {e : Env} {s : State} {m : MethodId} {args : Array Value} {below : List Frame} {meth : Method} {c : Code} {Q : State → Prop} {nm : String} {tb : List ExceptionTableEntry} (C : CX E p l s m args meth c cL_law 7 "TaktLineLaw" nm (some .boolean) tb) (hl : l.stackTraces = false) {b L : Nat} {xs : Nat → Int32} (hX : va_X b L xs s s.heap) (hbl : b < s.heap.size) (hbb : b < eB E) {h : Hp} {x m9 o : Nat} {i : Int32} {cc ss : Nat} (bc : cc ≤ 601024) (bs : ss ≤ 7293034) (hw : wp_law16 (eE E) L xs 601024 7293034 h x m9 o i cc ss (fun h_ c_ s_ => c_ ≤ 601024 → s_ ≤ 7293034 → WS E p l e room_1 s m args below meth c 7 Q h_ c_ s_ 1557 [(0, .ref b), (1, .ref x), (2, .ref m9), (3, .ref o), (4, .int i)] [])) : WS E p l e room_1 s m args below meth c 7 Q h cc ss 1069 [(0, .ref b), (1, .ref x), (2, .ref m9), (3, .ref o), (4, .int i)] [] := by
  unfold wp_law16 at hw
  refine r_aload_n C dL_law_1069 rfl rfl ?_
  refine r_aload_n C dL_law_1070 rfl rfl ?_
  refine r_iload C dL_law_1071 rfl ?_
  refine r_iconst (v := (1 : Int32)) C dL_law_1073 (by decide) ?_
  refine r_iadd C dL_law_1074 ?_
  obtain ⟨j1, f1, l1, k1, hw⟩ := hw
  refine a_S C hX hbl hbb f1 l1 k1 dL_law_1075 ?_
  refine r_aload_n C dL_law_1076 rfl rfl ?_
  obtain ⟨b3, d3, hw⟩ := hw
  refine r_callSW (As := [.ref x, .int (xs j1), .ref o]) (st := []) C (m_L_build hl hw) v_L_build w_727 rfl ⟨leb rfl, leb rfl⟩ ⟨b3, d3⟩ rfl (leb rfl) dL_law_1077 (fun _ _ z => z.elim) (kkI (K := fun hK sK => WS E p l e room_1 s m args below meth c 7 Q hK (cc + 4) (ss + 68) (1077 + 3) [(0, .ref b), (1, .ref x), (2, .ref m9), (3, .ref o), (4, .int i)] sK) (fun x2 h2 hv => ?_))
  replace hw := hv
  clear hv
  refine r_istore C dL_law_1080 (by decide) [(0, .ref b), (1, .ref x), (2, .ref m9), (3, .ref o), (4, .int i), (5, .int x2)] ⟨rfl, rfl, rfl, rfl, rfl, rfl, trivial⟩ ?_
  refine r_aload_n C dL_law_1082 rfl rfl ?_
  refine r_aload_n C dL_law_1083 rfl rfl ?_
  refine r_iload C dL_law_1084 rfl ?_
  refine r_iconst (v := (1 : Int32)) C dL_law_1086 (by decide) ?_
  refine r_iadd C dL_law_1087 ?_
  obtain ⟨j4, f4, l4, k4, hw⟩ := hw
  refine a_S C hX hbl hbb f4 l4 k4 dL_law_1088 ?_
  obtain ⟨g6, hw⟩ := hw
  refine r_callV (As := [.int (xs j4)]) (st := []) C (m_X6_build hl hw) v_X6_build w_976 K8 g6 (by decide) ob8 rfl ⟨leb rfl, leb rfl⟩ ⟨b3, d3⟩ rfl (leb rfl) dL_law_1089 (fun _ _ z => z.elim) (kkI (K := fun hK sK => WS E p l e room_1 s m args below meth c 7 Q hK (cc + 4 + 0) (ss + 68 + 0) (1089 + 3) [(0, .ref b), (1, .ref x), (2, .ref m9), (3, .ref o), (4, .int i), (5, .int x2)] sK) (fun x5 h5 hv => ?_))
  replace hw := hv
  clear hv
  refine r_istore C dL_law_1092 (by decide) [(0, .ref b), (1, .ref x), (2, .ref m9), (3, .ref o), (4, .int i), (5, .int x2), (6, .int x5)] ⟨rfl, rfl, rfl, rfl, rfl, rfl, rfl, trivial⟩ ?_
  refine r_aload_n C dL_law_1094 rfl rfl ?_
  obtain ⟨g8, hw⟩ := hw
  refine r_callV (As := []) (st := []) C (m_X6_thrown hl hw) v_X6_thrown w_905 K8 g8 (by decide) ob8 rfl ⟨leb rfl, leb rfl⟩ ⟨b3, d3⟩ rfl (leb rfl) dL_law_1095 (fun _ _ z => z.elim) (kpI (K := fun hK sK => WS E p l e room_1 s m args below meth c 7 Q hK (cc + 4 + 0 + 0) (ss + 68 + 0 + 0) (1095 + 3) [(0, .ref b), (1, .ref x), (2, .ref m9), (3, .ref o), (4, .int i), (5, .int x2), (6, .int x5)] sK) (fun x7 hv => ?_))
  replace hw := hv
  clear hv
  refine r_iload C dL_law_1098 rfl ?_
  refine r_icmp_eq C 1105 dL_law_1100 (by decide) (fun z9 => ?_) (fun z9 => ?_)
  · replace hw := hw.1 z9
    refine r_iload C dL_law_1105 rfl ?_
    replace hw := hw (WS E p l e room_1 s m args below meth c 7 Q h5 (cc + 4 + 0 + 0) (ss + 68 + 0 + 0) 1122 [(0, .ref b), (1, .ref x), (2, .ref m9), (3, .ref o), (4, .int i)] []) (by
      intro hv
      replace hw := hv
      clear hv
      refine r_goto C 1557 dL_law_1122 (by decide) ?_
      exact (r_subk (hw b3 d3) ⟨rfl, rfl, rfl, rfl, rfl, trivial⟩)
      )
    refine r_if_ne C 1122 dL_law_1107 (by decide) (fun z10 => ?_) (fun z10 => ?_)
    · replace hw := hw.2 z10
      exact (r_subk hw ⟨rfl, rfl, rfl, rfl, rfl, trivial⟩)
    · replace hw := hw.1 z10
      refine r_aload_n C dL_law_1110 rfl rfl ?_
      refine r_iconst (v := (0 : Int32)) C dL_law_1111 (by decide) ?_
      obtain ⟨g11, hw⟩ := hw
      obtain ⟨l12, hw⟩ := hw
      obtain ⟨x13, e13, hw⟩ := hw
      refine a_J C g11 (j := 0) rfl (by decide) l12 e13 dL_law_1112 ?_
      refine r_iload C dL_law_1113 rfl ?_
      refine r_i2l C dL_law_1115 ?_
      refine r_lcmp C dL_law_1116 ?_
      refine r_if_eq C 1122 dL_law_1117 (by decide) (fun z14 => ?_) (fun z14 => ?_)
      · replace hw := hw.1 z14
        exact (r_subk hw ⟨rfl, rfl, rfl, rfl, rfl, trivial⟩)
      · replace hw := hw.2 z14
        refine r_iconst (v := (0 : Int32)) C dL_law_1120 (by decide) ?_
        exact hw.elim
  · replace hw := hw.2 z9
    refine r_iconst (v := (0 : Int32)) C dL_law_1103 (by decide) ?_
    exact hw.elim

def wp_law17 (dE : Nat) (L : Nat) (xs : Nat → Int32) (mc ms : Nat) (h : Hp) (x m9 o : Nat) (i : Int32) (cc ss : Nat) (J : Hp → Nat → Nat → Prop) : Prop :=
(∃ j1 : Nat, i + (1 : Int32) = nI j1 ∧ j1 < 2147483648 ∧ j1 < L ∧
 (∃ j2 : Nat, i + (2 : Int32) = nI j2 ∧ j2 < 2147483648 ∧ j2 < L ∧
 (cc + 2 ≤ mc ∧
 (ss + 12 ≤ ms ∧
 wp_L_sign h x (xs j1) (xs j2) o (fun x3 h3 =>
 (∃ j5 : Nat, i + (1 : Int32) = nI j5 ∧ j5 < 2147483648 ∧ j5 < L ∧
 (∃ j6 : Nat, i + (2 : Int32) = nI j6 ∧ j6 < 2147483648 ∧ j6 < L ∧
 (hT h3 m9 = 8 ∧
 wp_X6_sign h3 m9 (xs j5) (xs j6) (fun x7 h7 =>
 (hT h7 m9 = 8 ∧
 wp_X6_thrown h7 m9 (fun x9 =>
 ((x9 = x3 →
 (∀ J1197 : Prop, ((J h7 (cc + 2 + 0 + 0) (ss + 12 + 0 + 0)) → J1197) →
 ((x3 = 0 →
 (hT h7 o = 22 ∧
 (0 < hL h7 o ∧
 (∃ x15 : Int64, hJ h7 o 0 = x15 ∧
 (∀ J1191 : Int64 → Prop, (∀ (t1191_0 : Int64), (((lg_cmp x15 t1191_0) = 0 →
 J1197) ∧ (¬ ((lg_cmp x15 t1191_0) = 0) →
 False)) → J1191 t1191_0) →
 ((x7 = 0 →
 J1191 (0 : Int64)) ∧ (¬ (x7 = 0) →
 J1191 (1 : Int64)))))))) ∧ (¬ (x3 = 0) →
 J1197)))) ∧ (¬ (x9 = x3) →
 False)))))))))))))
set_option maxHeartbeats 4000000 in
set_option maxRecDepth 100000 in
theorem mc_law17 {E : Ev} {p : Program} {l : Launch} {e : Env} {s : State} {m : MethodId} {args : Array Value} {below : List Frame} {meth : Method} {c : Code} {Q : State → Prop} {nm : String} {tb : List ExceptionTableEntry} (C : CX E p l s m args meth c cL_law 7 "TaktLineLaw" nm (some .boolean) tb) (hl : l.stackTraces = false) {b L : Nat} {xs : Nat → Int32} (hX : va_X b L xs s s.heap) (hbl : b < s.heap.size) (hbb : b < eB E) {h : Hp} {x m9 o : Nat} {i : Int32} {cc ss : Nat} (bc : cc ≤ 601024) (bs : ss ≤ 7293034) (hw : wp_law17 (eE E) L xs 601024 7293034 h x m9 o i cc ss (fun h_ c_ s_ => c_ ≤ 601024 → s_ ≤ 7293034 → WS E p l e room_1 s m args below meth c 7 Q h_ c_ s_ 1557 [(0, .ref b), (1, .ref x), (2, .ref m9), (3, .ref o), (4, .int i)] [])) : WS E p l e room_1 s m args below meth c 7 Q h cc ss 1125 [(0, .ref b), (1, .ref x), (2, .ref m9), (3, .ref o), (4, .int i)] [] := by
  unfold wp_law17 at hw
  refine r_aload_n C dL_law_1125 rfl rfl ?_
  refine r_aload_n C dL_law_1126 rfl rfl ?_
  refine r_iload C dL_law_1127 rfl ?_
  refine r_iconst (v := (1 : Int32)) C dL_law_1129 (by decide) ?_
  refine r_iadd C dL_law_1130 ?_
  obtain ⟨j1, f1, l1, k1, hw⟩ := hw
  refine a_S C hX hbl hbb f1 l1 k1 dL_law_1131 ?_
  refine r_aload_n C dL_law_1132 rfl rfl ?_
  refine r_iload C dL_law_1133 rfl ?_
  refine r_iconst (v := (2 : Int32)) C dL_law_1135 (by decide) ?_
  refine r_iadd C dL_law_1136 ?_
  obtain ⟨j2, f2, l2, k2, hw⟩ := hw
  refine a_S C hX hbl hbb f2 l2 k2 dL_law_1137 ?_
  refine r_aload_n C dL_law_1138 rfl rfl ?_
  obtain ⟨b4, d4, hw⟩ := hw
  refine r_callSW (As := [.ref x, .int (xs j1), .int (xs j2), .ref o]) (st := []) C (m_L_sign hl hw) v_L_sign w_759 rfl ⟨leb rfl, leb rfl⟩ ⟨b4, d4⟩ rfl (leb rfl) dL_law_1139 (fun _ _ z => z.elim) (kkI (K := fun hK sK => WS E p l e room_1 s m args below meth c 7 Q hK (cc + 2) (ss + 12) (1139 + 3) [(0, .ref b), (1, .ref x), (2, .ref m9), (3, .ref o), (4, .int i)] sK) (fun x3 h3 hv => ?_))
  replace hw := hv
  clear hv
  refine r_istore C dL_law_1142 (by decide) [(0, .ref b), (1, .ref x), (2, .ref m9), (3, .ref o), (4, .int i), (5, .int x3)] ⟨rfl, rfl, rfl, rfl, rfl, rfl, trivial⟩ ?_
  refine r_aload_n C dL_law_1144 rfl rfl ?_
  refine r_aload_n C dL_law_1145 rfl rfl ?_
  refine r_iload C dL_law_1146 rfl ?_
  refine r_iconst (v := (1 : Int32)) C dL_law_1148 (by decide) ?_
  refine r_iadd C dL_law_1149 ?_
  obtain ⟨j5, f5, l5, k5, hw⟩ := hw
  refine a_S C hX hbl hbb f5 l5 k5 dL_law_1150 ?_
  refine r_aload_n C dL_law_1151 rfl rfl ?_
  refine r_iload C dL_law_1152 rfl ?_
  refine r_iconst (v := (2 : Int32)) C dL_law_1154 (by decide) ?_
  refine r_iadd C dL_law_1155 ?_
  obtain ⟨j6, f6, l6, k6, hw⟩ := hw
  refine a_S C hX hbl hbb f6 l6 k6 dL_law_1156 ?_
  obtain ⟨g8, hw⟩ := hw
  refine r_callV (As := [.int (xs j5), .int (xs j6)]) (st := []) C (m_X6_sign hl hw) v_X6_sign w_988 K8 g8 (by decide) ob8 rfl ⟨leb rfl, leb rfl⟩ ⟨b4, d4⟩ rfl (leb rfl) dL_law_1157 (fun _ _ z => z.elim) (kkI (K := fun hK sK => WS E p l e room_1 s m args below meth c 7 Q hK (cc + 2 + 0) (ss + 12 + 0) (1157 + 3) [(0, .ref b), (1, .ref x), (2, .ref m9), (3, .ref o), (4, .int i), (5, .int x3)] sK) (fun x7 h7 hv => ?_))
  replace hw := hv
  clear hv
  refine r_istore C dL_law_1160 (by decide) [(0, .ref b), (1, .ref x), (2, .ref m9), (3, .ref o), (4, .int i), (5, .int x3), (6, .int x7)] ⟨rfl, rfl, rfl, rfl, rfl, rfl, rfl, trivial⟩ ?_
  refine r_aload_n C dL_law_1162 rfl rfl ?_
  obtain ⟨g10, hw⟩ := hw
  refine r_callV (As := []) (st := []) C (m_X6_thrown hl hw) v_X6_thrown w_905 K8 g10 (by decide) ob8 rfl ⟨leb rfl, leb rfl⟩ ⟨b4, d4⟩ rfl (leb rfl) dL_law_1163 (fun _ _ z => z.elim) (kpI (K := fun hK sK => WS E p l e room_1 s m args below meth c 7 Q hK (cc + 2 + 0 + 0) (ss + 12 + 0 + 0) (1163 + 3) [(0, .ref b), (1, .ref x), (2, .ref m9), (3, .ref o), (4, .int i), (5, .int x3), (6, .int x7)] sK) (fun x9 hv => ?_))
  replace hw := hv
  clear hv
  refine r_iload C dL_law_1166 rfl ?_
  refine r_icmp_eq C 1173 dL_law_1168 (by decide) (fun z11 => ?_) (fun z11 => ?_)
  · replace hw := hw.1 z11
    refine r_iload C dL_law_1173 rfl ?_
    replace hw := hw (WS E p l e room_1 s m args below meth c 7 Q h7 (cc + 2 + 0 + 0) (ss + 12 + 0 + 0) 1197 [(0, .ref b), (1, .ref x), (2, .ref m9), (3, .ref o), (4, .int i)] []) (by
      intro hv
      replace hw := hv
      clear hv
      refine r_goto C 1557 dL_law_1197 (by decide) ?_
      exact (r_subk (hw b4 d4) ⟨rfl, rfl, rfl, rfl, rfl, trivial⟩)
      )
    refine r_if_ne C 1197 dL_law_1175 (by decide) (fun z12 => ?_) (fun z12 => ?_)
    · replace hw := hw.2 z12
      exact (r_subk hw ⟨rfl, rfl, rfl, rfl, rfl, trivial⟩)
    · replace hw := hw.1 z12
      refine r_aload_n C dL_law_1178 rfl rfl ?_
      refine r_iconst (v := (0 : Int32)) C dL_law_1179 (by decide) ?_
      obtain ⟨g13, hw⟩ := hw
      obtain ⟨l14, hw⟩ := hw
      obtain ⟨x15, e15, hw⟩ := hw
      refine a_J C g13 (j := 0) rfl (by decide) l14 e15 dL_law_1180 ?_
      refine r_iload C dL_law_1181 rfl ?_
      replace hw := hw (fun (t1191_0 : Int64) => WS E p l e room_1 s m args below meth c 7 Q h7 (cc + 2 + 0 + 0) (ss + 12 + 0 + 0) 1191 [(0, .ref b), (1, .ref x), (2, .ref m9), (3, .ref o), (4, .int i)] [.long t1191_0, .long x15]) (by
        intro t1191_0 hv
        replace hw := hv
        clear hv
        refine r_lcmp C dL_law_1191 ?_
        refine r_if_eq C 1197 dL_law_1192 (by decide) (fun z16 => ?_) (fun z16 => ?_)
        · replace hw := hw.1 z16
          exact (r_subk hw ⟨rfl, rfl, rfl, rfl, rfl, trivial⟩)
        · replace hw := hw.2 z16
          refine r_iconst (v := (0 : Int32)) C dL_law_1195 (by decide) ?_
          exact hw.elim
        )
      refine r_if_eq C 1190 dL_law_1183 (by decide) (fun z17 => ?_) (fun z17 => ?_)
      · replace hw := hw.1 z17
        refine r_lconst (v := 0) C dL_law_1190 (by decide) ?_
        exact (r_subk hw ⟨rfl, rfl, rfl, rfl, rfl, trivial⟩)
      · replace hw := hw.2 z17
        refine r_lconst (v := 1) C dL_law_1186 (by decide) ?_
        refine r_goto C 1191 dL_law_1187 (by decide) ?_
        exact (r_subk hw ⟨rfl, rfl, rfl, rfl, rfl, trivial⟩)
  · replace hw := hw.2 z11
    refine r_iconst (v := (0 : Int32)) C dL_law_1171 (by decide) ?_
    exact hw.elim

def wp_law18 (dE : Nat) (L : Nat) (xs : Nat → Int32) (mc ms : Nat) (h : Hp) (x m9 o : Nat) (i : Int32) (cc ss : Nat) (J : Hp → Nat → Nat → Prop) : Prop :=
(∃ j1 : Nat, i + (1 : Int32) = nI j1 ∧ j1 < 2147483648 ∧ j1 < L ∧
 (∃ j2 : Nat, i + (2 : Int32) = nI j2 ∧ j2 < 2147483648 ∧ j2 < L ∧
 (cc + 3 ≤ mc ∧
 (ss + 18 ≤ ms ∧
 wp_L_flash h x (xs j1) (xs j2) o (fun x3 h3 =>
 (∃ j5 : Nat, i + (1 : Int32) = nI j5 ∧ j5 < 2147483648 ∧ j5 < L ∧
 (∃ j6 : Nat, i + (2 : Int32) = nI j6 ∧ j6 < 2147483648 ∧ j6 < L ∧
 (hT h3 m9 = 8 ∧
 wp_X6_flash h3 m9 (xs j5) (xs j6) (fun x7 h7 =>
 (hT h7 m9 = 8 ∧
 wp_X6_thrown h7 m9 (fun x9 =>
 ((x9 = x3 →
 (∀ J1265 : Prop, ((J h7 (cc + 3 + 0 + 0) (ss + 18 + 0 + 0)) → J1265) →
 ((x3 = 0 →
 (hT h7 o = 22 ∧
 (0 < hL h7 o ∧
 (∃ x15 : Int64, hJ h7 o 0 = x15 ∧
 (((lg_cmp x15 x7.toInt64) = 0 →
 J1265) ∧ (¬ ((lg_cmp x15 x7.toInt64) = 0) →
 False)))))) ∧ (¬ (x3 = 0) →
 J1265)))) ∧ (¬ (x9 = x3) →
 False)))))))))))))
set_option maxHeartbeats 4000000 in
set_option maxRecDepth 100000 in
theorem mc_law18 {E : Ev} {p : Program} {l : Launch} {e : Env} {s : State} {m : MethodId} {args : Array Value} {below : List Frame} {meth : Method} {c : Code} {Q : State → Prop} {nm : String} {tb : List ExceptionTableEntry} (C : CX E p l s m args meth c cL_law 7 "TaktLineLaw" nm (some .boolean) tb) (hl : l.stackTraces = false) {b L : Nat} {xs : Nat → Int32} (hX : va_X b L xs s s.heap) (hbl : b < s.heap.size) (hbb : b < eB E) {h : Hp} {x m9 o : Nat} {i : Int32} {cc ss : Nat} (bc : cc ≤ 601024) (bs : ss ≤ 7293034) (hw : wp_law18 (eE E) L xs 601024 7293034 h x m9 o i cc ss (fun h_ c_ s_ => c_ ≤ 601024 → s_ ≤ 7293034 → WS E p l e room_1 s m args below meth c 7 Q h_ c_ s_ 1557 [(0, .ref b), (1, .ref x), (2, .ref m9), (3, .ref o), (4, .int i)] [])) : WS E p l e room_1 s m args below meth c 7 Q h cc ss 1200 [(0, .ref b), (1, .ref x), (2, .ref m9), (3, .ref o), (4, .int i)] [] := by
  unfold wp_law18 at hw
  refine r_aload_n C dL_law_1200 rfl rfl ?_
  refine r_aload_n C dL_law_1201 rfl rfl ?_
  refine r_iload C dL_law_1202 rfl ?_
  refine r_iconst (v := (1 : Int32)) C dL_law_1204 (by decide) ?_
  refine r_iadd C dL_law_1205 ?_
  obtain ⟨j1, f1, l1, k1, hw⟩ := hw
  refine a_S C hX hbl hbb f1 l1 k1 dL_law_1206 ?_
  refine r_aload_n C dL_law_1207 rfl rfl ?_
  refine r_iload C dL_law_1208 rfl ?_
  refine r_iconst (v := (2 : Int32)) C dL_law_1210 (by decide) ?_
  refine r_iadd C dL_law_1211 ?_
  obtain ⟨j2, f2, l2, k2, hw⟩ := hw
  refine a_S C hX hbl hbb f2 l2 k2 dL_law_1212 ?_
  refine r_aload_n C dL_law_1213 rfl rfl ?_
  obtain ⟨b4, d4, hw⟩ := hw
  refine r_callSW (As := [.ref x, .int (xs j1), .int (xs j2), .ref o]) (st := []) C (m_L_flash hl hw) v_L_flash w_771 rfl ⟨leb rfl, leb rfl⟩ ⟨b4, d4⟩ rfl (leb rfl) dL_law_1214 (fun _ _ z => z.elim) (kkI (K := fun hK sK => WS E p l e room_1 s m args below meth c 7 Q hK (cc + 3) (ss + 18) (1214 + 3) [(0, .ref b), (1, .ref x), (2, .ref m9), (3, .ref o), (4, .int i)] sK) (fun x3 h3 hv => ?_))
  replace hw := hv
  clear hv
  refine r_istore C dL_law_1217 (by decide) [(0, .ref b), (1, .ref x), (2, .ref m9), (3, .ref o), (4, .int i), (5, .int x3)] ⟨rfl, rfl, rfl, rfl, rfl, rfl, trivial⟩ ?_
  refine r_aload_n C dL_law_1219 rfl rfl ?_
  refine r_aload_n C dL_law_1220 rfl rfl ?_
  refine r_iload C dL_law_1221 rfl ?_
  refine r_iconst (v := (1 : Int32)) C dL_law_1223 (by decide) ?_
  refine r_iadd C dL_law_1224 ?_
  obtain ⟨j5, f5, l5, k5, hw⟩ := hw
  refine a_S C hX hbl hbb f5 l5 k5 dL_law_1225 ?_
  refine r_aload_n C dL_law_1226 rfl rfl ?_
  refine r_iload C dL_law_1227 rfl ?_
  refine r_iconst (v := (2 : Int32)) C dL_law_1229 (by decide) ?_
  refine r_iadd C dL_law_1230 ?_
  obtain ⟨j6, f6, l6, k6, hw⟩ := hw
  refine a_S C hX hbl hbb f6 l6 k6 dL_law_1231 ?_
  obtain ⟨g8, hw⟩ := hw
  refine r_callV (As := [.int (xs j5), .int (xs j6)]) (st := []) C (m_X6_flash hl hw) v_X6_flash w_996 K8 g8 (by decide) ob8 rfl ⟨leb rfl, leb rfl⟩ ⟨b4, d4⟩ rfl (leb rfl) dL_law_1232 (fun _ _ z => z.elim) (kkI (K := fun hK sK => WS E p l e room_1 s m args below meth c 7 Q hK (cc + 3 + 0) (ss + 18 + 0) (1232 + 3) [(0, .ref b), (1, .ref x), (2, .ref m9), (3, .ref o), (4, .int i), (5, .int x3)] sK) (fun x7 h7 hv => ?_))
  replace hw := hv
  clear hv
  refine r_istore C dL_law_1235 (by decide) [(0, .ref b), (1, .ref x), (2, .ref m9), (3, .ref o), (4, .int i), (5, .int x3), (6, .int x7)] ⟨rfl, rfl, rfl, rfl, rfl, rfl, rfl, trivial⟩ ?_
  refine r_aload_n C dL_law_1237 rfl rfl ?_
  obtain ⟨g10, hw⟩ := hw
  refine r_callV (As := []) (st := []) C (m_X6_thrown hl hw) v_X6_thrown w_905 K8 g10 (by decide) ob8 rfl ⟨leb rfl, leb rfl⟩ ⟨b4, d4⟩ rfl (leb rfl) dL_law_1238 (fun _ _ z => z.elim) (kpI (K := fun hK sK => WS E p l e room_1 s m args below meth c 7 Q hK (cc + 3 + 0 + 0) (ss + 18 + 0 + 0) (1238 + 3) [(0, .ref b), (1, .ref x), (2, .ref m9), (3, .ref o), (4, .int i), (5, .int x3), (6, .int x7)] sK) (fun x9 hv => ?_))
  replace hw := hv
  clear hv
  refine r_iload C dL_law_1241 rfl ?_
  refine r_icmp_eq C 1248 dL_law_1243 (by decide) (fun z11 => ?_) (fun z11 => ?_)
  · replace hw := hw.1 z11
    refine r_iload C dL_law_1248 rfl ?_
    replace hw := hw (WS E p l e room_1 s m args below meth c 7 Q h7 (cc + 3 + 0 + 0) (ss + 18 + 0 + 0) 1265 [(0, .ref b), (1, .ref x), (2, .ref m9), (3, .ref o), (4, .int i)] []) (by
      intro hv
      replace hw := hv
      clear hv
      refine r_goto C 1557 dL_law_1265 (by decide) ?_
      exact (r_subk (hw b4 d4) ⟨rfl, rfl, rfl, rfl, rfl, trivial⟩)
      )
    refine r_if_ne C 1265 dL_law_1250 (by decide) (fun z12 => ?_) (fun z12 => ?_)
    · replace hw := hw.2 z12
      exact (r_subk hw ⟨rfl, rfl, rfl, rfl, rfl, trivial⟩)
    · replace hw := hw.1 z12
      refine r_aload_n C dL_law_1253 rfl rfl ?_
      refine r_iconst (v := (0 : Int32)) C dL_law_1254 (by decide) ?_
      obtain ⟨g13, hw⟩ := hw
      obtain ⟨l14, hw⟩ := hw
      obtain ⟨x15, e15, hw⟩ := hw
      refine a_J C g13 (j := 0) rfl (by decide) l14 e15 dL_law_1255 ?_
      refine r_iload C dL_law_1256 rfl ?_
      refine r_i2l C dL_law_1258 ?_
      refine r_lcmp C dL_law_1259 ?_
      refine r_if_eq C 1265 dL_law_1260 (by decide) (fun z16 => ?_) (fun z16 => ?_)
      · replace hw := hw.1 z16
        exact (r_subk hw ⟨rfl, rfl, rfl, rfl, rfl, trivial⟩)
      · replace hw := hw.2 z16
        refine r_iconst (v := (0 : Int32)) C dL_law_1263 (by decide) ?_
        exact hw.elim
  · replace hw := hw.2 z11
    refine r_iconst (v := (0 : Int32)) C dL_law_1246 (by decide) ?_
    exact hw.elim

def wp_law19 (dE : Nat) (L : Nat) (xs : Nat → Int32) (mc ms : Nat) (h : Hp) (x m9 o : Nat) (i : Int32) (cc ss : Nat) (J : Hp → Nat → Nat → Prop) : Prop :=
(∃ j1 : Nat, i + (1 : Int32) = nI j1 ∧ j1 < 2147483648 ∧ j1 < L ∧
 (cc + 1 ≤ mc ∧
 (ss + 6 ≤ ms ∧
 wp_L_imageOf h x (xs j1) o (fun x2 h2 =>
 (∃ j4 : Nat, i + (1 : Int32) = nI j4 ∧ j4 < 2147483648 ∧ j4 < L ∧
 (hT h2 m9 = 8 ∧
 wp_X6_imageOf h2 m9 (xs j4) (fun x5 h5 =>
 (hT h5 m9 = 8 ∧
 wp_X6_thrown h5 m9 (fun x7 =>
 ((x7 = x2 →
 (∀ J1321 : Prop, ((J h5 (cc + 1 + 0 + 0) (ss + 6 + 0 + 0)) → J1321) →
 ((x2 = 0 →
 (hT h5 o = 22 ∧
 (0 < hL h5 o ∧
 (∃ x13 : Int64, hJ h5 o 0 = x13 ∧
 (((lg_cmp x13 x5.toInt64) = 0 →
 J1321) ∧ (¬ ((lg_cmp x13 x5.toInt64) = 0) →
 False)))))) ∧ (¬ (x2 = 0) →
 J1321)))) ∧ (¬ (x7 = x2) →
 False)))))))))))
set_option maxHeartbeats 4000000 in
set_option maxRecDepth 100000 in
theorem mc_law19 {E : Ev} {p : Program} {l : Launch} {e : Env} {s : State} {m : MethodId} {args : Array Value} {below : List Frame} {meth : Method} {c : Code} {Q : State → Prop} {nm : String} {tb : List ExceptionTableEntry} (C : CX E p l s m args meth c cL_law 7 "TaktLineLaw" nm (some .boolean) tb) (hl : l.stackTraces = false) {b L : Nat} {xs : Nat → Int32} (hX : va_X b L xs s s.heap) (hbl : b < s.heap.size) (hbb : b < eB E) {h : Hp} {x m9 o : Nat} {i : Int32} {cc ss : Nat} (bc : cc ≤ 601024) (bs : ss ≤ 7293034) (hw : wp_law19 (eE E) L xs 601024 7293034 h x m9 o i cc ss (fun h_ c_ s_ => c_ ≤ 601024 → s_ ≤ 7293034 → WS E p l e room_1 s m args below meth c 7 Q h_ c_ s_ 1557 [(0, .ref b), (1, .ref x), (2, .ref m9), (3, .ref o), (4, .int i)] [])) : WS E p l e room_1 s m args below meth c 7 Q h cc ss 1268 [(0, .ref b), (1, .ref x), (2, .ref m9), (3, .ref o), (4, .int i)] [] := by
  unfold wp_law19 at hw
  refine r_aload_n C dL_law_1268 rfl rfl ?_
  refine r_aload_n C dL_law_1269 rfl rfl ?_
  refine r_iload C dL_law_1270 rfl ?_
  refine r_iconst (v := (1 : Int32)) C dL_law_1272 (by decide) ?_
  refine r_iadd C dL_law_1273 ?_
  obtain ⟨j1, f1, l1, k1, hw⟩ := hw
  refine a_S C hX hbl hbb f1 l1 k1 dL_law_1274 ?_
  refine r_aload_n C dL_law_1275 rfl rfl ?_
  obtain ⟨b3, d3, hw⟩ := hw
  refine r_callSW (As := [.ref x, .int (xs j1), .ref o]) (st := []) C (m_L_imageOf hl hw) v_L_imageOf w_779 rfl ⟨leb rfl, leb rfl⟩ ⟨b3, d3⟩ rfl (leb rfl) dL_law_1276 (fun _ _ z => z.elim) (kkI (K := fun hK sK => WS E p l e room_1 s m args below meth c 7 Q hK (cc + 1) (ss + 6) (1276 + 3) [(0, .ref b), (1, .ref x), (2, .ref m9), (3, .ref o), (4, .int i)] sK) (fun x2 h2 hv => ?_))
  replace hw := hv
  clear hv
  refine r_istore C dL_law_1279 (by decide) [(0, .ref b), (1, .ref x), (2, .ref m9), (3, .ref o), (4, .int i), (5, .int x2)] ⟨rfl, rfl, rfl, rfl, rfl, rfl, trivial⟩ ?_
  refine r_aload_n C dL_law_1281 rfl rfl ?_
  refine r_aload_n C dL_law_1282 rfl rfl ?_
  refine r_iload C dL_law_1283 rfl ?_
  refine r_iconst (v := (1 : Int32)) C dL_law_1285 (by decide) ?_
  refine r_iadd C dL_law_1286 ?_
  obtain ⟨j4, f4, l4, k4, hw⟩ := hw
  refine a_S C hX hbl hbb f4 l4 k4 dL_law_1287 ?_
  obtain ⟨g6, hw⟩ := hw
  refine r_callV (As := [.int (xs j4)]) (st := []) C (m_X6_imageOf hl hw) v_X6_imageOf w_1000 K8 g6 (by decide) ob8 rfl ⟨leb rfl, leb rfl⟩ ⟨b3, d3⟩ rfl (leb rfl) dL_law_1288 (fun _ _ z => z.elim) (kkI (K := fun hK sK => WS E p l e room_1 s m args below meth c 7 Q hK (cc + 1 + 0) (ss + 6 + 0) (1288 + 3) [(0, .ref b), (1, .ref x), (2, .ref m9), (3, .ref o), (4, .int i), (5, .int x2)] sK) (fun x5 h5 hv => ?_))
  replace hw := hv
  clear hv
  refine r_istore C dL_law_1291 (by decide) [(0, .ref b), (1, .ref x), (2, .ref m9), (3, .ref o), (4, .int i), (5, .int x2), (6, .int x5)] ⟨rfl, rfl, rfl, rfl, rfl, rfl, rfl, trivial⟩ ?_
  refine r_aload_n C dL_law_1293 rfl rfl ?_
  obtain ⟨g8, hw⟩ := hw
  refine r_callV (As := []) (st := []) C (m_X6_thrown hl hw) v_X6_thrown w_905 K8 g8 (by decide) ob8 rfl ⟨leb rfl, leb rfl⟩ ⟨b3, d3⟩ rfl (leb rfl) dL_law_1294 (fun _ _ z => z.elim) (kpI (K := fun hK sK => WS E p l e room_1 s m args below meth c 7 Q hK (cc + 1 + 0 + 0) (ss + 6 + 0 + 0) (1294 + 3) [(0, .ref b), (1, .ref x), (2, .ref m9), (3, .ref o), (4, .int i), (5, .int x2), (6, .int x5)] sK) (fun x7 hv => ?_))
  replace hw := hv
  clear hv
  refine r_iload C dL_law_1297 rfl ?_
  refine r_icmp_eq C 1304 dL_law_1299 (by decide) (fun z9 => ?_) (fun z9 => ?_)
  · replace hw := hw.1 z9
    refine r_iload C dL_law_1304 rfl ?_
    replace hw := hw (WS E p l e room_1 s m args below meth c 7 Q h5 (cc + 1 + 0 + 0) (ss + 6 + 0 + 0) 1321 [(0, .ref b), (1, .ref x), (2, .ref m9), (3, .ref o), (4, .int i)] []) (by
      intro hv
      replace hw := hv
      clear hv
      refine r_goto C 1557 dL_law_1321 (by decide) ?_
      exact (r_subk (hw b3 d3) ⟨rfl, rfl, rfl, rfl, rfl, trivial⟩)
      )
    refine r_if_ne C 1321 dL_law_1306 (by decide) (fun z10 => ?_) (fun z10 => ?_)
    · replace hw := hw.2 z10
      exact (r_subk hw ⟨rfl, rfl, rfl, rfl, rfl, trivial⟩)
    · replace hw := hw.1 z10
      refine r_aload_n C dL_law_1309 rfl rfl ?_
      refine r_iconst (v := (0 : Int32)) C dL_law_1310 (by decide) ?_
      obtain ⟨g11, hw⟩ := hw
      obtain ⟨l12, hw⟩ := hw
      obtain ⟨x13, e13, hw⟩ := hw
      refine a_J C g11 (j := 0) rfl (by decide) l12 e13 dL_law_1311 ?_
      refine r_iload C dL_law_1312 rfl ?_
      refine r_i2l C dL_law_1314 ?_
      refine r_lcmp C dL_law_1315 ?_
      refine r_if_eq C 1321 dL_law_1316 (by decide) (fun z14 => ?_) (fun z14 => ?_)
      · replace hw := hw.1 z14
        exact (r_subk hw ⟨rfl, rfl, rfl, rfl, rfl, trivial⟩)
      · replace hw := hw.2 z14
        refine r_iconst (v := (0 : Int32)) C dL_law_1319 (by decide) ?_
        exact hw.elim
  · replace hw := hw.2 z9
    refine r_iconst (v := (0 : Int32)) C dL_law_1302 (by decide) ?_
    exact hw.elim

def wp_law20 (dE : Nat) (L : Nat) (xs : Nat → Int32) (mc ms : Nat) (h : Hp) (x m9 o : Nat) (i : Int32) (cc ss : Nat) (J : Hp → Nat → Nat → Prop) : Prop :=
(∃ j1 : Nat, i + (1 : Int32) = nI j1 ∧ j1 < 2147483648 ∧ j1 < L ∧
 (∃ j2 : Nat, i + (2 : Int32) = nI j2 ∧ j2 < 2147483648 ∧ j2 < L ∧
 (cc + 2 ≤ mc ∧
 (ss + 12 ≤ ms ∧
 wp_L_versionIn h x (xs j1) (xs j2) o (fun x3 h3 =>
 (∃ j5 : Nat, i + (1 : Int32) = nI j5 ∧ j5 < 2147483648 ∧ j5 < L ∧
 (∃ j6 : Nat, i + (2 : Int32) = nI j6 ∧ j6 < 2147483648 ∧ j6 < L ∧
 (hT h3 m9 = 8 ∧
 wp_X6_versionIn h3 m9 (xs j5) (xs j6) (fun x7 h7 =>
 (hT h7 m9 = 8 ∧
 wp_X6_thrown h7 m9 (fun x9 =>
 ((x9 = x3 →
 (∀ J1389 : Prop, ((J h7 (cc + 2 + 0 + 0) (ss + 12 + 0 + 0)) → J1389) →
 ((x3 = 0 →
 (hT h7 o = 22 ∧
 (0 < hL h7 o ∧
 (∃ x15 : Int64, hJ h7 o 0 = x15 ∧
 (((lg_cmp x15 x7.toInt64) = 0 →
 J1389) ∧ (¬ ((lg_cmp x15 x7.toInt64) = 0) →
 False)))))) ∧ (¬ (x3 = 0) →
 J1389)))) ∧ (¬ (x9 = x3) →
 False)))))))))))))
set_option maxHeartbeats 4000000 in
set_option maxRecDepth 100000 in
theorem mc_law20 {E : Ev} {p : Program} {l : Launch} {e : Env} {s : State} {m : MethodId} {args : Array Value} {below : List Frame} {meth : Method} {c : Code} {Q : State → Prop} {nm : String} {tb : List ExceptionTableEntry} (C : CX E p l s m args meth c cL_law 7 "TaktLineLaw" nm (some .boolean) tb) (hl : l.stackTraces = false) {b L : Nat} {xs : Nat → Int32} (hX : va_X b L xs s s.heap) (hbl : b < s.heap.size) (hbb : b < eB E) {h : Hp} {x m9 o : Nat} {i : Int32} {cc ss : Nat} (bc : cc ≤ 601024) (bs : ss ≤ 7293034) (hw : wp_law20 (eE E) L xs 601024 7293034 h x m9 o i cc ss (fun h_ c_ s_ => c_ ≤ 601024 → s_ ≤ 7293034 → WS E p l e room_1 s m args below meth c 7 Q h_ c_ s_ 1557 [(0, .ref b), (1, .ref x), (2, .ref m9), (3, .ref o), (4, .int i)] [])) : WS E p l e room_1 s m args below meth c 7 Q h cc ss 1324 [(0, .ref b), (1, .ref x), (2, .ref m9), (3, .ref o), (4, .int i)] [] := by
  unfold wp_law20 at hw
  refine r_aload_n C dL_law_1324 rfl rfl ?_
  refine r_aload_n C dL_law_1325 rfl rfl ?_
  refine r_iload C dL_law_1326 rfl ?_
  refine r_iconst (v := (1 : Int32)) C dL_law_1328 (by decide) ?_
  refine r_iadd C dL_law_1329 ?_
  obtain ⟨j1, f1, l1, k1, hw⟩ := hw
  refine a_S C hX hbl hbb f1 l1 k1 dL_law_1330 ?_
  refine r_aload_n C dL_law_1331 rfl rfl ?_
  refine r_iload C dL_law_1332 rfl ?_
  refine r_iconst (v := (2 : Int32)) C dL_law_1334 (by decide) ?_
  refine r_iadd C dL_law_1335 ?_
  obtain ⟨j2, f2, l2, k2, hw⟩ := hw
  refine a_S C hX hbl hbb f2 l2 k2 dL_law_1336 ?_
  refine r_aload_n C dL_law_1337 rfl rfl ?_
  obtain ⟨b4, d4, hw⟩ := hw
  refine r_callSW (As := [.ref x, .int (xs j1), .int (xs j2), .ref o]) (st := []) C (m_L_versionIn hl hw) v_L_versionIn w_786 rfl ⟨leb rfl, leb rfl⟩ ⟨b4, d4⟩ rfl (leb rfl) dL_law_1338 (fun _ _ z => z.elim) (kkI (K := fun hK sK => WS E p l e room_1 s m args below meth c 7 Q hK (cc + 2) (ss + 12) (1338 + 3) [(0, .ref b), (1, .ref x), (2, .ref m9), (3, .ref o), (4, .int i)] sK) (fun x3 h3 hv => ?_))
  replace hw := hv
  clear hv
  refine r_istore C dL_law_1341 (by decide) [(0, .ref b), (1, .ref x), (2, .ref m9), (3, .ref o), (4, .int i), (5, .int x3)] ⟨rfl, rfl, rfl, rfl, rfl, rfl, trivial⟩ ?_
  refine r_aload_n C dL_law_1343 rfl rfl ?_
  refine r_aload_n C dL_law_1344 rfl rfl ?_
  refine r_iload C dL_law_1345 rfl ?_
  refine r_iconst (v := (1 : Int32)) C dL_law_1347 (by decide) ?_
  refine r_iadd C dL_law_1348 ?_
  obtain ⟨j5, f5, l5, k5, hw⟩ := hw
  refine a_S C hX hbl hbb f5 l5 k5 dL_law_1349 ?_
  refine r_aload_n C dL_law_1350 rfl rfl ?_
  refine r_iload C dL_law_1351 rfl ?_
  refine r_iconst (v := (2 : Int32)) C dL_law_1353 (by decide) ?_
  refine r_iadd C dL_law_1354 ?_
  obtain ⟨j6, f6, l6, k6, hw⟩ := hw
  refine a_S C hX hbl hbb f6 l6 k6 dL_law_1355 ?_
  obtain ⟨g8, hw⟩ := hw
  refine r_callV (As := [.int (xs j5), .int (xs j6)]) (st := []) C (m_X6_versionIn hl hw) v_X6_versionIn w_1004 K8 g8 (by decide) ob8 rfl ⟨leb rfl, leb rfl⟩ ⟨b4, d4⟩ rfl (leb rfl) dL_law_1356 (fun _ _ z => z.elim) (kkI (K := fun hK sK => WS E p l e room_1 s m args below meth c 7 Q hK (cc + 2 + 0) (ss + 12 + 0) (1356 + 3) [(0, .ref b), (1, .ref x), (2, .ref m9), (3, .ref o), (4, .int i), (5, .int x3)] sK) (fun x7 h7 hv => ?_))
  replace hw := hv
  clear hv
  refine r_istore C dL_law_1359 (by decide) [(0, .ref b), (1, .ref x), (2, .ref m9), (3, .ref o), (4, .int i), (5, .int x3), (6, .int x7)] ⟨rfl, rfl, rfl, rfl, rfl, rfl, rfl, trivial⟩ ?_
  refine r_aload_n C dL_law_1361 rfl rfl ?_
  obtain ⟨g10, hw⟩ := hw
  refine r_callV (As := []) (st := []) C (m_X6_thrown hl hw) v_X6_thrown w_905 K8 g10 (by decide) ob8 rfl ⟨leb rfl, leb rfl⟩ ⟨b4, d4⟩ rfl (leb rfl) dL_law_1362 (fun _ _ z => z.elim) (kpI (K := fun hK sK => WS E p l e room_1 s m args below meth c 7 Q hK (cc + 2 + 0 + 0) (ss + 12 + 0 + 0) (1362 + 3) [(0, .ref b), (1, .ref x), (2, .ref m9), (3, .ref o), (4, .int i), (5, .int x3), (6, .int x7)] sK) (fun x9 hv => ?_))
  replace hw := hv
  clear hv
  refine r_iload C dL_law_1365 rfl ?_
  refine r_icmp_eq C 1372 dL_law_1367 (by decide) (fun z11 => ?_) (fun z11 => ?_)
  · replace hw := hw.1 z11
    refine r_iload C dL_law_1372 rfl ?_
    replace hw := hw (WS E p l e room_1 s m args below meth c 7 Q h7 (cc + 2 + 0 + 0) (ss + 12 + 0 + 0) 1389 [(0, .ref b), (1, .ref x), (2, .ref m9), (3, .ref o), (4, .int i)] []) (by
      intro hv
      replace hw := hv
      clear hv
      refine r_goto C 1557 dL_law_1389 (by decide) ?_
      exact (r_subk (hw b4 d4) ⟨rfl, rfl, rfl, rfl, rfl, trivial⟩)
      )
    refine r_if_ne C 1389 dL_law_1374 (by decide) (fun z12 => ?_) (fun z12 => ?_)
    · replace hw := hw.2 z12
      exact (r_subk hw ⟨rfl, rfl, rfl, rfl, rfl, trivial⟩)
    · replace hw := hw.1 z12
      refine r_aload_n C dL_law_1377 rfl rfl ?_
      refine r_iconst (v := (0 : Int32)) C dL_law_1378 (by decide) ?_
      obtain ⟨g13, hw⟩ := hw
      obtain ⟨l14, hw⟩ := hw
      obtain ⟨x15, e15, hw⟩ := hw
      refine a_J C g13 (j := 0) rfl (by decide) l14 e15 dL_law_1379 ?_
      refine r_iload C dL_law_1380 rfl ?_
      refine r_i2l C dL_law_1382 ?_
      refine r_lcmp C dL_law_1383 ?_
      refine r_if_eq C 1389 dL_law_1384 (by decide) (fun z16 => ?_) (fun z16 => ?_)
      · replace hw := hw.1 z16
        exact (r_subk hw ⟨rfl, rfl, rfl, rfl, rfl, trivial⟩)
      · replace hw := hw.2 z16
        refine r_iconst (v := (0 : Int32)) C dL_law_1387 (by decide) ?_
        exact hw.elim
  · replace hw := hw.2 z11
    refine r_iconst (v := (0 : Int32)) C dL_law_1370 (by decide) ?_
    exact hw.elim

def wp_law21 (dE : Nat) (L : Nat) (xs : Nat → Int32) (mc ms : Nat) (h : Hp) (x m9 o : Nat) (i : Int32) (cc ss : Nat) (J : Hp → Nat → Nat → Prop) : Prop :=
(hT h x = 7 ∧
 wp_X5_images h x (fun x1 =>
 (hT h m9 = 8 ∧
 wp_X6_images h m9 (fun x3 h3 =>
 ((x1 = x3 →
 J h3 (cc + 0 + 0) (ss + 0 + 0)) ∧ (¬ (x1 = x3) →
 False))))))
set_option maxHeartbeats 4000000 in
set_option maxRecDepth 100000 in
theorem mc_law21 {E : Ev} {p : Program} {l : Launch} {e : Env} {s : State} {m : MethodId} {args : Array Value} {below : List Frame} {meth : Method} {c : Code} {Q : State → Prop} {nm : String} {tb : List ExceptionTableEntry} (C : CX E p l s m args meth c cL_law 7 "TaktLineLaw" nm (some .boolean) tb) (hl : l.stackTraces = false) {b L : Nat} {xs : Nat → Int32} (hX : va_X b L xs s s.heap) (hbl : b < s.heap.size) (hbb : b < eB E) {h : Hp} {x m9 o : Nat} {i : Int32} {cc ss : Nat} (bc : cc ≤ 601024) (bs : ss ≤ 7293034) (hw : wp_law21 (eE E) L xs 601024 7293034 h x m9 o i cc ss (fun h_ c_ s_ => c_ ≤ 601024 → s_ ≤ 7293034 → WS E p l e room_1 s m args below meth c 7 Q h_ c_ s_ 1557 [(0, .ref b), (1, .ref x), (2, .ref m9), (3, .ref o), (4, .int i)] [])) : WS E p l e room_1 s m args below meth c 7 Q h cc ss 1392 [(0, .ref b), (1, .ref x), (2, .ref m9), (3, .ref o), (4, .int i)] [] := by
  unfold wp_law21 at hw
  refine r_aload_n C dL_law_1392 rfl rfl ?_
  obtain ⟨g2, hw⟩ := hw
  refine r_callV (As := []) (st := []) C (m_X5_images hl hw) v_X5_images w_176 K7 g2 (by decide) ob7 rfl ⟨leb rfl, leb rfl⟩ ⟨bc, bs⟩ rfl (leb rfl) dL_law_1393 (fun _ _ z => z.elim) (kpI (K := fun hK sK => WS E p l e room_1 s m args below meth c 7 Q hK (cc + 0) (ss + 0) (1393 + 3) [(0, .ref b), (1, .ref x), (2, .ref m9), (3, .ref o), (4, .int i)] sK) (fun x1 hv => ?_))
  replace hw := hv
  clear hv
  refine r_aload_n C dL_law_1396 rfl rfl ?_
  obtain ⟨g4, hw⟩ := hw
  refine r_callV (As := []) (st := [.int x1]) C (m_X6_images hl hw) v_X6_images w_1008 K8 g4 (by decide) ob8 rfl ⟨leb rfl, leb rfl⟩ ⟨bc, bs⟩ rfl (leb rfl) dL_law_1397 (fun _ _ z => z.elim) (kkI (K := fun hK sK => WS E p l e room_1 s m args below meth c 7 Q hK (cc + 0 + 0) (ss + 0 + 0) (1397 + 3) [(0, .ref b), (1, .ref x), (2, .ref m9), (3, .ref o), (4, .int i)] sK) (fun x3 h3 hv => ?_))
  replace hw := hv
  clear hv
  refine r_icmp_eq C 1557 dL_law_1400 (by decide) (fun z5 => ?_) (fun z5 => ?_)
  · replace hw := hw.1 z5
    exact (r_subk (hw bc bs) ⟨rfl, rfl, rfl, rfl, rfl, trivial⟩)
  · replace hw := hw.2 z5
    refine r_iconst (v := (0 : Int32)) C dL_law_1403 (by decide) ?_
    exact hw.elim

def wp_law22 (dE : Nat) (L : Nat) (xs : Nat → Int32) (mc ms : Nat) (h : Hp) (x m9 o : Nat) (i : Int32) (cc ss : Nat) (J : Hp → Nat → Nat → Prop) : Prop :=
(∃ j1 : Nat, i + (1 : Int32) = nI j1 ∧ j1 < 2147483648 ∧ j1 < L ∧
 (cc + 1 ≤ mc ∧
 (ss + 6 ≤ ms ∧
 wp_L_isFit h x (xs j1) o (fun x2 h2 =>
 (∃ j4 : Nat, i + (1 : Int32) = nI j4 ∧ j4 < 2147483648 ∧ j4 < L ∧
 (hT h2 m9 = 8 ∧
 wp_X6_isFit h2 m9 (xs j4) (fun x5 h5 =>
 (hT h5 m9 = 8 ∧
 wp_X6_thrown h5 m9 (fun x7 =>
 ((x7 = x2 →
 (∀ J1465 : Prop, ((J h5 (cc + 1 + 0 + 0) (ss + 6 + 0 + 0)) → J1465) →
 ((x2 = 0 →
 (hT h5 o = 22 ∧
 (0 < hL h5 o ∧
 (∃ x13 : Int64, hJ h5 o 0 = x13 ∧
 (∀ J1459 : Int64 → Prop, (∀ (t1459_0 : Int64), (((lg_cmp x13 t1459_0) = 0 →
 J1465) ∧ (¬ ((lg_cmp x13 t1459_0) = 0) →
 False)) → J1459 t1459_0) →
 ((x5 = 0 →
 J1459 (0 : Int64)) ∧ (¬ (x5 = 0) →
 J1459 (1 : Int64)))))))) ∧ (¬ (x2 = 0) →
 J1465)))) ∧ (¬ (x7 = x2) →
 False)))))))))))
set_option maxHeartbeats 4000000 in
set_option maxRecDepth 100000 in
theorem mc_law22 {E : Ev} {p : Program} {l : Launch} {e : Env} {s : State} {m : MethodId} {args : Array Value} {below : List Frame} {meth : Method} {c : Code} {Q : State → Prop} {nm : String} {tb : List ExceptionTableEntry} (C : CX E p l s m args meth c cL_law 7 "TaktLineLaw" nm (some .boolean) tb) (hl : l.stackTraces = false) {b L : Nat} {xs : Nat → Int32} (hX : va_X b L xs s s.heap) (hbl : b < s.heap.size) (hbb : b < eB E) {h : Hp} {x m9 o : Nat} {i : Int32} {cc ss : Nat} (bc : cc ≤ 601024) (bs : ss ≤ 7293034) (hw : wp_law22 (eE E) L xs 601024 7293034 h x m9 o i cc ss (fun h_ c_ s_ => c_ ≤ 601024 → s_ ≤ 7293034 → WS E p l e room_1 s m args below meth c 7 Q h_ c_ s_ 1557 [(0, .ref b), (1, .ref x), (2, .ref m9), (3, .ref o), (4, .int i)] [])) : WS E p l e room_1 s m args below meth c 7 Q h cc ss 1405 [(0, .ref b), (1, .ref x), (2, .ref m9), (3, .ref o), (4, .int i)] [] := by
  unfold wp_law22 at hw
  refine r_aload_n C dL_law_1405 rfl rfl ?_
  refine r_aload_n C dL_law_1406 rfl rfl ?_
  refine r_iload C dL_law_1407 rfl ?_
  refine r_iconst (v := (1 : Int32)) C dL_law_1409 (by decide) ?_
  refine r_iadd C dL_law_1410 ?_
  obtain ⟨j1, f1, l1, k1, hw⟩ := hw
  refine a_S C hX hbl hbb f1 l1 k1 dL_law_1411 ?_
  refine r_aload_n C dL_law_1412 rfl rfl ?_
  obtain ⟨b3, d3, hw⟩ := hw
  refine r_callSW (As := [.ref x, .int (xs j1), .ref o]) (st := []) C (m_L_isFit hl hw) v_L_isFit w_793 rfl ⟨leb rfl, leb rfl⟩ ⟨b3, d3⟩ rfl (leb rfl) dL_law_1413 (fun _ _ z => z.elim) (kkI (K := fun hK sK => WS E p l e room_1 s m args below meth c 7 Q hK (cc + 1) (ss + 6) (1413 + 3) [(0, .ref b), (1, .ref x), (2, .ref m9), (3, .ref o), (4, .int i)] sK) (fun x2 h2 hv => ?_))
  replace hw := hv
  clear hv
  refine r_istore C dL_law_1416 (by decide) [(0, .ref b), (1, .ref x), (2, .ref m9), (3, .ref o), (4, .int i), (5, .int x2)] ⟨rfl, rfl, rfl, rfl, rfl, rfl, trivial⟩ ?_
  refine r_aload_n C dL_law_1418 rfl rfl ?_
  refine r_aload_n C dL_law_1419 rfl rfl ?_
  refine r_iload C dL_law_1420 rfl ?_
  refine r_iconst (v := (1 : Int32)) C dL_law_1422 (by decide) ?_
  refine r_iadd C dL_law_1423 ?_
  obtain ⟨j4, f4, l4, k4, hw⟩ := hw
  refine a_S C hX hbl hbb f4 l4 k4 dL_law_1424 ?_
  obtain ⟨g6, hw⟩ := hw
  refine r_callV (As := [.int (xs j4)]) (st := []) C (m_X6_isFit hl hw) v_X6_isFit w_1012 K8 g6 (by decide) ob8 rfl ⟨leb rfl, leb rfl⟩ ⟨b3, d3⟩ rfl (leb rfl) dL_law_1425 (fun _ _ z => z.elim) (kkI (K := fun hK sK => WS E p l e room_1 s m args below meth c 7 Q hK (cc + 1 + 0) (ss + 6 + 0) (1425 + 3) [(0, .ref b), (1, .ref x), (2, .ref m9), (3, .ref o), (4, .int i), (5, .int x2)] sK) (fun x5 h5 hv => ?_))
  replace hw := hv
  clear hv
  refine r_istore C dL_law_1428 (by decide) [(0, .ref b), (1, .ref x), (2, .ref m9), (3, .ref o), (4, .int i), (5, .int x2), (6, .int x5)] ⟨rfl, rfl, rfl, rfl, rfl, rfl, rfl, trivial⟩ ?_
  refine r_aload_n C dL_law_1430 rfl rfl ?_
  obtain ⟨g8, hw⟩ := hw
  refine r_callV (As := []) (st := []) C (m_X6_thrown hl hw) v_X6_thrown w_905 K8 g8 (by decide) ob8 rfl ⟨leb rfl, leb rfl⟩ ⟨b3, d3⟩ rfl (leb rfl) dL_law_1431 (fun _ _ z => z.elim) (kpI (K := fun hK sK => WS E p l e room_1 s m args below meth c 7 Q hK (cc + 1 + 0 + 0) (ss + 6 + 0 + 0) (1431 + 3) [(0, .ref b), (1, .ref x), (2, .ref m9), (3, .ref o), (4, .int i), (5, .int x2), (6, .int x5)] sK) (fun x7 hv => ?_))
  replace hw := hv
  clear hv
  refine r_iload C dL_law_1434 rfl ?_
  refine r_icmp_eq C 1441 dL_law_1436 (by decide) (fun z9 => ?_) (fun z9 => ?_)
  · replace hw := hw.1 z9
    refine r_iload C dL_law_1441 rfl ?_
    replace hw := hw (WS E p l e room_1 s m args below meth c 7 Q h5 (cc + 1 + 0 + 0) (ss + 6 + 0 + 0) 1465 [(0, .ref b), (1, .ref x), (2, .ref m9), (3, .ref o), (4, .int i)] []) (by
      intro hv
      replace hw := hv
      clear hv
      refine r_goto C 1557 dL_law_1465 (by decide) ?_
      exact (r_subk (hw b3 d3) ⟨rfl, rfl, rfl, rfl, rfl, trivial⟩)
      )
    refine r_if_ne C 1465 dL_law_1443 (by decide) (fun z10 => ?_) (fun z10 => ?_)
    · replace hw := hw.2 z10
      exact (r_subk hw ⟨rfl, rfl, rfl, rfl, rfl, trivial⟩)
    · replace hw := hw.1 z10
      refine r_aload_n C dL_law_1446 rfl rfl ?_
      refine r_iconst (v := (0 : Int32)) C dL_law_1447 (by decide) ?_
      obtain ⟨g11, hw⟩ := hw
      obtain ⟨l12, hw⟩ := hw
      obtain ⟨x13, e13, hw⟩ := hw
      refine a_J C g11 (j := 0) rfl (by decide) l12 e13 dL_law_1448 ?_
      refine r_iload C dL_law_1449 rfl ?_
      replace hw := hw (fun (t1459_0 : Int64) => WS E p l e room_1 s m args below meth c 7 Q h5 (cc + 1 + 0 + 0) (ss + 6 + 0 + 0) 1459 [(0, .ref b), (1, .ref x), (2, .ref m9), (3, .ref o), (4, .int i)] [.long t1459_0, .long x13]) (by
        intro t1459_0 hv
        replace hw := hv
        clear hv
        refine r_lcmp C dL_law_1459 ?_
        refine r_if_eq C 1465 dL_law_1460 (by decide) (fun z14 => ?_) (fun z14 => ?_)
        · replace hw := hw.1 z14
          exact (r_subk hw ⟨rfl, rfl, rfl, rfl, rfl, trivial⟩)
        · replace hw := hw.2 z14
          refine r_iconst (v := (0 : Int32)) C dL_law_1463 (by decide) ?_
          exact hw.elim
        )
      refine r_if_eq C 1458 dL_law_1451 (by decide) (fun z15 => ?_) (fun z15 => ?_)
      · replace hw := hw.1 z15
        refine r_lconst (v := 0) C dL_law_1458 (by decide) ?_
        exact (r_subk hw ⟨rfl, rfl, rfl, rfl, rfl, trivial⟩)
      · replace hw := hw.2 z15
        refine r_lconst (v := 1) C dL_law_1454 (by decide) ?_
        refine r_goto C 1459 dL_law_1455 (by decide) ?_
        exact (r_subk hw ⟨rfl, rfl, rfl, rfl, rfl, trivial⟩)
  · replace hw := hw.2 z9
    refine r_iconst (v := (0 : Int32)) C dL_law_1439 (by decide) ?_
    exact hw.elim

def wp_law23 (dE : Nat) (L : Nat) (xs : Nat → Int32) (mc ms : Nat) (h : Hp) (x m9 o : Nat) (i : Int32) (cc ss : Nat) (J : Hp → Nat → Nat → Prop) : Prop :=
(∃ j1 : Nat, i + (1 : Int32) = nI j1 ∧ j1 < 2147483648 ∧ j1 < L ∧
 (cc + 1 ≤ mc ∧
 (ss + 6 ≤ ms ∧
 wp_L_isTested h x (xs j1) o (fun x2 h2 =>
 (∃ j4 : Nat, i + (1 : Int32) = nI j4 ∧ j4 < 2147483648 ∧ j4 < L ∧
 (hT h2 m9 = 8 ∧
 wp_X6_isTested h2 m9 (xs j4) (fun x5 h5 =>
 (hT h5 m9 = 8 ∧
 wp_X6_thrown h5 m9 (fun x7 =>
 ((x7 = x2 →
 (∀ J1528 : Prop, ((J h5 (cc + 1 + 0 + 0) (ss + 6 + 0 + 0)) → J1528) →
 ((x2 = 0 →
 (hT h5 o = 22 ∧
 (0 < hL h5 o ∧
 (∃ x13 : Int64, hJ h5 o 0 = x13 ∧
 (∀ J1522 : Int64 → Prop, (∀ (t1522_0 : Int64), (((lg_cmp x13 t1522_0) = 0 →
 J1528) ∧ (¬ ((lg_cmp x13 t1522_0) = 0) →
 False)) → J1522 t1522_0) →
 ((x5 = 0 →
 J1522 (0 : Int64)) ∧ (¬ (x5 = 0) →
 J1522 (1 : Int64)))))))) ∧ (¬ (x2 = 0) →
 J1528)))) ∧ (¬ (x7 = x2) →
 False)))))))))))
set_option maxHeartbeats 4000000 in
set_option maxRecDepth 100000 in
theorem mc_law23 {E : Ev} {p : Program} {l : Launch} {e : Env} {s : State} {m : MethodId} {args : Array Value} {below : List Frame} {meth : Method} {c : Code} {Q : State → Prop} {nm : String} {tb : List ExceptionTableEntry} (C : CX E p l s m args meth c cL_law 7 "TaktLineLaw" nm (some .boolean) tb) (hl : l.stackTraces = false) {b L : Nat} {xs : Nat → Int32} (hX : va_X b L xs s s.heap) (hbl : b < s.heap.size) (hbb : b < eB E) {h : Hp} {x m9 o : Nat} {i : Int32} {cc ss : Nat} (bc : cc ≤ 601024) (bs : ss ≤ 7293034) (hw : wp_law23 (eE E) L xs 601024 7293034 h x m9 o i cc ss (fun h_ c_ s_ => c_ ≤ 601024 → s_ ≤ 7293034 → WS E p l e room_1 s m args below meth c 7 Q h_ c_ s_ 1557 [(0, .ref b), (1, .ref x), (2, .ref m9), (3, .ref o), (4, .int i)] [])) : WS E p l e room_1 s m args below meth c 7 Q h cc ss 1468 [(0, .ref b), (1, .ref x), (2, .ref m9), (3, .ref o), (4, .int i)] [] := by
  unfold wp_law23 at hw
  refine r_aload_n C dL_law_1468 rfl rfl ?_
  refine r_aload_n C dL_law_1469 rfl rfl ?_
  refine r_iload C dL_law_1470 rfl ?_
  refine r_iconst (v := (1 : Int32)) C dL_law_1472 (by decide) ?_
  refine r_iadd C dL_law_1473 ?_
  obtain ⟨j1, f1, l1, k1, hw⟩ := hw
  refine a_S C hX hbl hbb f1 l1 k1 dL_law_1474 ?_
  refine r_aload_n C dL_law_1475 rfl rfl ?_
  obtain ⟨b3, d3, hw⟩ := hw
  refine r_callSW (As := [.ref x, .int (xs j1), .ref o]) (st := []) C (m_L_isTested hl hw) v_L_isTested w_800 rfl ⟨leb rfl, leb rfl⟩ ⟨b3, d3⟩ rfl (leb rfl) dL_law_1476 (fun _ _ z => z.elim) (kkI (K := fun hK sK => WS E p l e room_1 s m args below meth c 7 Q hK (cc + 1) (ss + 6) (1476 + 3) [(0, .ref b), (1, .ref x), (2, .ref m9), (3, .ref o), (4, .int i)] sK) (fun x2 h2 hv => ?_))
  replace hw := hv
  clear hv
  refine r_istore C dL_law_1479 (by decide) [(0, .ref b), (1, .ref x), (2, .ref m9), (3, .ref o), (4, .int i), (5, .int x2)] ⟨rfl, rfl, rfl, rfl, rfl, rfl, trivial⟩ ?_
  refine r_aload_n C dL_law_1481 rfl rfl ?_
  refine r_aload_n C dL_law_1482 rfl rfl ?_
  refine r_iload C dL_law_1483 rfl ?_
  refine r_iconst (v := (1 : Int32)) C dL_law_1485 (by decide) ?_
  refine r_iadd C dL_law_1486 ?_
  obtain ⟨j4, f4, l4, k4, hw⟩ := hw
  refine a_S C hX hbl hbb f4 l4 k4 dL_law_1487 ?_
  obtain ⟨g6, hw⟩ := hw
  refine r_callV (As := [.int (xs j4)]) (st := []) C (m_X6_isTested hl hw) v_X6_isTested w_1020 K8 g6 (by decide) ob8 rfl ⟨leb rfl, leb rfl⟩ ⟨b3, d3⟩ rfl (leb rfl) dL_law_1488 (fun _ _ z => z.elim) (kkI (K := fun hK sK => WS E p l e room_1 s m args below meth c 7 Q hK (cc + 1 + 0) (ss + 6 + 0) (1488 + 3) [(0, .ref b), (1, .ref x), (2, .ref m9), (3, .ref o), (4, .int i), (5, .int x2)] sK) (fun x5 h5 hv => ?_))
  replace hw := hv
  clear hv
  refine r_istore C dL_law_1491 (by decide) [(0, .ref b), (1, .ref x), (2, .ref m9), (3, .ref o), (4, .int i), (5, .int x2), (6, .int x5)] ⟨rfl, rfl, rfl, rfl, rfl, rfl, rfl, trivial⟩ ?_
  refine r_aload_n C dL_law_1493 rfl rfl ?_
  obtain ⟨g8, hw⟩ := hw
  refine r_callV (As := []) (st := []) C (m_X6_thrown hl hw) v_X6_thrown w_905 K8 g8 (by decide) ob8 rfl ⟨leb rfl, leb rfl⟩ ⟨b3, d3⟩ rfl (leb rfl) dL_law_1494 (fun _ _ z => z.elim) (kpI (K := fun hK sK => WS E p l e room_1 s m args below meth c 7 Q hK (cc + 1 + 0 + 0) (ss + 6 + 0 + 0) (1494 + 3) [(0, .ref b), (1, .ref x), (2, .ref m9), (3, .ref o), (4, .int i), (5, .int x2), (6, .int x5)] sK) (fun x7 hv => ?_))
  replace hw := hv
  clear hv
  refine r_iload C dL_law_1497 rfl ?_
  refine r_icmp_eq C 1504 dL_law_1499 (by decide) (fun z9 => ?_) (fun z9 => ?_)
  · replace hw := hw.1 z9
    refine r_iload C dL_law_1504 rfl ?_
    replace hw := hw (WS E p l e room_1 s m args below meth c 7 Q h5 (cc + 1 + 0 + 0) (ss + 6 + 0 + 0) 1528 [(0, .ref b), (1, .ref x), (2, .ref m9), (3, .ref o), (4, .int i)] []) (by
      intro hv
      replace hw := hv
      clear hv
      refine r_goto C 1557 dL_law_1528 (by decide) ?_
      exact (r_subk (hw b3 d3) ⟨rfl, rfl, rfl, rfl, rfl, trivial⟩)
      )
    refine r_if_ne C 1528 dL_law_1506 (by decide) (fun z10 => ?_) (fun z10 => ?_)
    · replace hw := hw.2 z10
      exact (r_subk hw ⟨rfl, rfl, rfl, rfl, rfl, trivial⟩)
    · replace hw := hw.1 z10
      refine r_aload_n C dL_law_1509 rfl rfl ?_
      refine r_iconst (v := (0 : Int32)) C dL_law_1510 (by decide) ?_
      obtain ⟨g11, hw⟩ := hw
      obtain ⟨l12, hw⟩ := hw
      obtain ⟨x13, e13, hw⟩ := hw
      refine a_J C g11 (j := 0) rfl (by decide) l12 e13 dL_law_1511 ?_
      refine r_iload C dL_law_1512 rfl ?_
      replace hw := hw (fun (t1522_0 : Int64) => WS E p l e room_1 s m args below meth c 7 Q h5 (cc + 1 + 0 + 0) (ss + 6 + 0 + 0) 1522 [(0, .ref b), (1, .ref x), (2, .ref m9), (3, .ref o), (4, .int i)] [.long t1522_0, .long x13]) (by
        intro t1522_0 hv
        replace hw := hv
        clear hv
        refine r_lcmp C dL_law_1522 ?_
        refine r_if_eq C 1528 dL_law_1523 (by decide) (fun z14 => ?_) (fun z14 => ?_)
        · replace hw := hw.1 z14
          exact (r_subk hw ⟨rfl, rfl, rfl, rfl, rfl, trivial⟩)
        · replace hw := hw.2 z14
          refine r_iconst (v := (0 : Int32)) C dL_law_1526 (by decide) ?_
          exact hw.elim
        )
      refine r_if_eq C 1521 dL_law_1514 (by decide) (fun z15 => ?_) (fun z15 => ?_)
      · replace hw := hw.1 z15
        refine r_lconst (v := 0) C dL_law_1521 (by decide) ?_
        exact (r_subk hw ⟨rfl, rfl, rfl, rfl, rfl, trivial⟩)
      · replace hw := hw.2 z15
        refine r_lconst (v := 1) C dL_law_1517 (by decide) ?_
        refine r_goto C 1522 dL_law_1518 (by decide) ?_
        exact (r_subk hw ⟨rfl, rfl, rfl, rfl, rfl, trivial⟩)
  · replace hw := hw.2 z9
    refine r_iconst (v := (0 : Int32)) C dL_law_1502 (by decide) ?_
    exact hw.elim

def wp_law24 (dE : Nat) (L : Nat) (xs : Nat → Int32) (mc ms : Nat) (h : Hp) (x m9 o : Nat) (i : Int32) (cc ss : Nat) (J : Hp → Nat → Nat → Prop) : Prop :=
(hT h x = 7 ∧
 wp_X5_failed h x (fun x1 =>
 (hT h m9 = 8 ∧
 wp_X6_failed h m9 (fun x3 h3 =>
 ((x1 = x3 →
 J h3 (cc + 0 + 0) (ss + 0 + 0)) ∧ (¬ (x1 = x3) →
 False))))))
set_option maxHeartbeats 4000000 in
set_option maxRecDepth 100000 in
theorem mc_law24 {E : Ev} {p : Program} {l : Launch} {e : Env} {s : State} {m : MethodId} {args : Array Value} {below : List Frame} {meth : Method} {c : Code} {Q : State → Prop} {nm : String} {tb : List ExceptionTableEntry} (C : CX E p l s m args meth c cL_law 7 "TaktLineLaw" nm (some .boolean) tb) (hl : l.stackTraces = false) {b L : Nat} {xs : Nat → Int32} (hX : va_X b L xs s s.heap) (hbl : b < s.heap.size) (hbb : b < eB E) {h : Hp} {x m9 o : Nat} {i : Int32} {cc ss : Nat} (bc : cc ≤ 601024) (bs : ss ≤ 7293034) (hw : wp_law24 (eE E) L xs 601024 7293034 h x m9 o i cc ss (fun h_ c_ s_ => c_ ≤ 601024 → s_ ≤ 7293034 → WS E p l e room_1 s m args below meth c 7 Q h_ c_ s_ 1557 [(0, .ref b), (1, .ref x), (2, .ref m9), (3, .ref o), (4, .int i)] [])) : WS E p l e room_1 s m args below meth c 7 Q h cc ss 1531 [(0, .ref b), (1, .ref x), (2, .ref m9), (3, .ref o), (4, .int i)] [] := by
  unfold wp_law24 at hw
  refine r_aload_n C dL_law_1531 rfl rfl ?_
  obtain ⟨g2, hw⟩ := hw
  refine r_callV (As := []) (st := []) C (m_X5_failed hl hw) v_X5_failed w_184 K7 g2 (by decide) ob7 rfl ⟨leb rfl, leb rfl⟩ ⟨bc, bs⟩ rfl (leb rfl) dL_law_1532 (fun _ _ z => z.elim) (kpI (K := fun hK sK => WS E p l e room_1 s m args below meth c 7 Q hK (cc + 0) (ss + 0) (1532 + 3) [(0, .ref b), (1, .ref x), (2, .ref m9), (3, .ref o), (4, .int i)] sK) (fun x1 hv => ?_))
  replace hw := hv
  clear hv
  refine r_aload_n C dL_law_1535 rfl rfl ?_
  obtain ⟨g4, hw⟩ := hw
  refine r_callV (As := []) (st := [.int x1]) C (m_X6_failed hl hw) v_X6_failed w_1024 K8 g4 (by decide) ob8 rfl ⟨leb rfl, leb rfl⟩ ⟨bc, bs⟩ rfl (leb rfl) dL_law_1536 (fun _ _ z => z.elim) (kkI (K := fun hK sK => WS E p l e room_1 s m args below meth c 7 Q hK (cc + 0 + 0) (ss + 0 + 0) (1536 + 3) [(0, .ref b), (1, .ref x), (2, .ref m9), (3, .ref o), (4, .int i)] sK) (fun x3 h3 hv => ?_))
  replace hw := hv
  clear hv
  refine r_icmp_eq C 1557 dL_law_1539 (by decide) (fun z5 => ?_) (fun z5 => ?_)
  · replace hw := hw.1 z5
    exact (r_subk (hw bc bs) ⟨rfl, rfl, rfl, rfl, rfl, trivial⟩)
  · replace hw := hw.2 z5
    refine r_iconst (v := (0 : Int32)) C dL_law_1542 (by decide) ?_
    exact hw.elim

def wp_law25 (dE : Nat) (L : Nat) (xs : Nat → Int32) (mc ms : Nat) (h : Hp) (x m9 o : Nat) (i : Int32) (cc ss : Nat) (J : Hp → Nat → Nat → Prop) : Prop :=
(hT h x = 7 ∧
 wp_X5_atLarge h x (fun x1 =>
 (hT h m9 = 8 ∧
 wp_X6_atLarge h m9 (fun x3 h3 =>
 ((x1 = x3 →
 J h3 (cc + 0 + 0) (ss + 0 + 0)) ∧ (¬ (x1 = x3) →
 False))))))
set_option maxHeartbeats 4000000 in
set_option maxRecDepth 100000 in
theorem mc_law25 {E : Ev} {p : Program} {l : Launch} {e : Env} {s : State} {m : MethodId} {args : Array Value} {below : List Frame} {meth : Method} {c : Code} {Q : State → Prop} {nm : String} {tb : List ExceptionTableEntry} (C : CX E p l s m args meth c cL_law 7 "TaktLineLaw" nm (some .boolean) tb) (hl : l.stackTraces = false) {b L : Nat} {xs : Nat → Int32} (hX : va_X b L xs s s.heap) (hbl : b < s.heap.size) (hbb : b < eB E) {h : Hp} {x m9 o : Nat} {i : Int32} {cc ss : Nat} (bc : cc ≤ 601024) (bs : ss ≤ 7293034) (hw : wp_law25 (eE E) L xs 601024 7293034 h x m9 o i cc ss (fun h_ c_ s_ => c_ ≤ 601024 → s_ ≤ 7293034 → WS E p l e room_1 s m args below meth c 7 Q h_ c_ s_ 1557 [(0, .ref b), (1, .ref x), (2, .ref m9), (3, .ref o), (4, .int i)] [])) : WS E p l e room_1 s m args below meth c 7 Q h cc ss 1544 [(0, .ref b), (1, .ref x), (2, .ref m9), (3, .ref o), (4, .int i)] [] := by
  unfold wp_law25 at hw
  refine r_aload_n C dL_law_1544 rfl rfl ?_
  obtain ⟨g2, hw⟩ := hw
  refine r_callV (As := []) (st := []) C (m_X5_atLarge hl hw) v_X5_atLarge w_188 K7 g2 (by decide) ob7 rfl ⟨leb rfl, leb rfl⟩ ⟨bc, bs⟩ rfl (leb rfl) dL_law_1545 (fun _ _ z => z.elim) (kpI (K := fun hK sK => WS E p l e room_1 s m args below meth c 7 Q hK (cc + 0) (ss + 0) (1545 + 3) [(0, .ref b), (1, .ref x), (2, .ref m9), (3, .ref o), (4, .int i)] sK) (fun x1 hv => ?_))
  replace hw := hv
  clear hv
  refine r_aload_n C dL_law_1548 rfl rfl ?_
  obtain ⟨g4, hw⟩ := hw
  refine r_callV (As := []) (st := [.int x1]) C (m_X6_atLarge hl hw) v_X6_atLarge w_1028 K8 g4 (by decide) ob8 rfl ⟨leb rfl, leb rfl⟩ ⟨bc, bs⟩ rfl (leb rfl) dL_law_1549 (fun _ _ z => z.elim) (kkI (K := fun hK sK => WS E p l e room_1 s m args below meth c 7 Q hK (cc + 0 + 0) (ss + 0 + 0) (1549 + 3) [(0, .ref b), (1, .ref x), (2, .ref m9), (3, .ref o), (4, .int i)] sK) (fun x3 h3 hv => ?_))
  replace hw := hv
  clear hv
  refine r_icmp_eq C 1557 dL_law_1552 (by decide) (fun z5 => ?_) (fun z5 => ?_)
  · replace hw := hw.1 z5
    exact (r_subk (hw bc bs) ⟨rfl, rfl, rfl, rfl, rfl, trivial⟩)
  · replace hw := hw.2 z5
    refine r_iconst (v := (0 : Int32)) C dL_law_1555 (by decide) ?_
    exact hw.elim

