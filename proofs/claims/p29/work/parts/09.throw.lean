/-! methods that throw -/
def STR : List (Nat × String) := [(223, "tokens are 0 to 99"), (63, "there are 6 places"), (75, "there are 8 firings"), (221, "no such firing"), (219, "no such place"), (89, "no such kind of arc"), (92, "no such weight of that kind"), (110, "the firing cannot be done"), (115, "what is 0 to 3"), (137, "a marking is 0 or more"), (155, "a step is 0 or more"), (166, "no such least row"), (178, "no such least round"), (188, "no such least siphon"), (193, "the set has a bit without a place"), (205, "the log has 10 firings")]
def IAE : String := "java/lang/IllegalArgumentException"
def ISE : String := "java/lang/IllegalStateException"
def IOE : String := "java/lang/IndexOutOfBoundsException"
def exN (t : Int) : String := if t = 1 then IAE else if t = 2 then ISE else IOE
def exK (t : Int) : Nat := if t = 1 then 87 else if t = 2 then 61 else 164
def exC (t : Int) : Nat := if t = 1 then 91 else if t = 2 then 65 else 168
def exS : List String := ["java/lang/RuntimeException", "java/lang/Exception"]
def SRs (U : State) : Prop := ∀ q ∈ STR, ∃ sa, vk_R "MarkingHall" q.1 q.2 sa U
def NCs (U : State) : Prop := va_Nc ISE IAE U ∧ va_Nc IAE IOE U ∧ va_Nc ISE IOE U
def Zqs (A : Nat → Prop) (U : State) (H : Heap) : Prop := vx_Zq Bundle.tN "UNASSIGNED_STACK" Bundle.steD A U H ∧ vx_Zq Bundle.tN "SUPPRESSED_SENTINEL" Bundle.listD A U H
def adr (ws : va_W) : Nat → Prop := fun q => ∃ (k : Nat) (e : va_E), ws[k]? = some (q, e)
def TE (ws : va_W) (U : State) : Prop := SRs U ∧ NCs U ∧ Zqs (adr ws) U U.heap
def TT (A : Nat → Prop) (s : State) : Prop := SRs s ∧ NCs s ∧ Zqs A s s.heap
theorem SRs.warm {s U : State} (hW : s.WarmedH U.vm) (h : SRs s) : SRs U := fun q hq => by
  obtain ⟨sa, h1⟩ := h q hq
  exact ⟨sa, vk_R.warm hW h1⟩
theorem SRs.same {u U : State} (hv : U.vm = u.vm) (h : SRs u) : SRs U := fun q hq => by
  obtain ⟨sa, h1⟩ := h q hq
  exact ⟨sa, vk_R.same hv h1⟩
theorem NCs.moved {u U : State} (hvm : u.vm.Alike U.vm) (h : NCs u) : NCs U := ⟨va_Nc.moved hvm h.1, va_Nc.moved hvm h.2.1, va_Nc.moved hvm h.2.2⟩
theorem zq_in {C n d : String} {A : Nat → Prop} {U : State} {H : Heap} (h : vx_Zq C n d A U H) : vx_Zq C n d (fun q => A q ∨ H.size ≤ q) U H := by
  have lt : ∀ {a : Nat} {cell : Cell}, H[a]? = some cell → ¬ H.size ≤ a := fun h => Nat.not_le.mpr (Array.getElem?_eq_some_iff.mp h).1
  obtain ⟨h1, h2⟩ := h
  refine ⟨?_, ?_⟩
  · rcases h1 with ⟨cf, kf, fi, f, a, cell, q1, q2, q3, q4, q5, q6, q7, q8⟩ | ⟨t, cf, kf, fi, f, a, cell, q1, q2, q3, q4, q5, q6, q7, q8⟩
    · exact Or.inl ⟨cf, kf, fi, f, a, cell, q1, q2, q3, q4, q5, q6, q7, fun z => z.elim q8 (lt q5)⟩
    · exact Or.inr ⟨t, cf, kf, fi, f, a, cell, q1, q2, q3, q4, q5, q6, q7, fun z => z.elim q8 (lt q5)⟩
  · obtain ⟨c, k, i, f, a, cell, q1, q2, q3, q4, q5, q6, q7, q8, q9, q10⟩ := h2
    exact ⟨c, k, i, f, a, cell, q1, q2, q3, q4, q5, q6, q7, q8, q9, fun z => z.elim q10 (lt q5)⟩
theorem Zqs.kept {A : Nat → Prop} {U : State} {H H1 : Heap} (h : Zqs A U H) (hq : ∀ a : Nat, a < H.size → ¬ A a → H1[a]? = H[a]?) : Zqs A U H1 := ⟨h.1.kept hq, h.2.kept hq⟩
theorem Zqs.moved {A : Nat → Prop} {u U : State} {H : Heap} (hvm : u.vm.Alike U.vm) (h : Zqs A u H) : Zqs A U H := ⟨h.1.moved hvm, h.2.moved hvm⟩
theorem Zqs.narrow {A B : Nat → Prop} {U : State} {H : Heap} (h : Zqs A U H) (hAB : ∀ q, B q → A q) : Zqs B U H := ⟨h.1.narrow hAB, h.2.narrow hAB⟩
theorem TT_of {ws : va_W} {s : State} (h : TE ws s) : TT (va_A ws s.heap.size) s := ⟨h.1, h.2.1, zq_in h.2.2.1, zq_in h.2.2.2⟩
theorem TE_of {A : Nat → Prop} {s U : State} {wc : va_W} {H : Heap} {locs : List Loc} (T : TT A s) (hW : s.WarmedH U.vm) (hU : U.heap = H) (hS : va_S A s.heap H locs) (hA : ∀ q, adr wc q → A q) : TE wc U :=
  ⟨T.1.warm hW, T.2.1.moved hW.alike, by rw [hU]; exact ((T.2.2.kept hS.2.1).moved hW.alike).narrow hA⟩
def Kx (l : Launch) (y : MethodName) (cc : ByteArray) (nL : Nat) (rt : Option FieldType) (rm : Room) (D : va_G) (tys : List (ClassId × FieldType)) (As : List Value) (ws ws' : va_W) (E : String) : Prop :=
  ∀ sz : Nat, vx_Met l y (Cond.code y cc nL rt :: ALLW) rm (va_Pc As (fun U => U.heap.size = sz ∧ va_P D vwCl ws U.heap ∧ va_K D vwCl tys U ∧ NWs U ∧ TE ws U ∧ va_D (fun _ => True) ws)) (fun _ _ _ _ => False) (fun Ec st t => (Ec = E ∧ va_P D vwCl ws' t.heap) ∧ va_F (va_A ws sz) st t) 1 6 (va_A ws sz)
def TS (cc : ByteArray) (t : Int) (pc : Nat) : Prop := (t = 1 ∨ t = 2 ∨ t = 3) ∧ ∃ (is : Nat) (text : String), (is, text) ∈ STR ∧ decode cc pc = .ok (.new (exK t), 3) ∧ decode cc (pc + 3) = .ok (.dup, 1) ∧ decode cc (pc + 4) = .ok (.ldc is, 2) ∧ decode cc (pc + 6) = .ok (.invokespecial (exC t), 3) ∧ decode cc (pc + 9) = .ok (.athrow, 1)
theorem ex_words : ∀ t : Int, (t = 1 ∨ t = 2 ∨ t = 3) → Bundle.fit (exN t) = true ∧ Cond.classLink "MarkingHall" (exK t) (exN t) ∈ ALLW ∧ Cond.initialized (exN t) ∈ ALLW ∧ (∀ w ∈ (vx_atS "MarkingHall" (exC t) (exN t) exS).filter goodWord, w ∈ ALLW) ∧ (∀ w ∈ (vx_atS "MarkingHall" (exC t) (exN t) exS).filter (fun w => !goodWord w), w ∈ NW) ∧ (∀ w ∈ Cond.classLink "MarkingHall" (exK t) (exN t) :: Cond.initialized (exN t) :: vx_atS "MarkingHall" (exC t) (exN t) exS, vx_ot w = true) := by
  have aux : ∀ L : List Cond, (L.filter goodWord).all (fun w => decide (w ∈ tables_1)) = true → ∀ w ∈ L.filter goodWord, w ∈ ALLW := fun L h w hw => kA (of_decide_eq_true (List.all_eq_true.mp h w hw)) (List.mem_filter.mp hw).2
  have aux2 : ∀ L : List Cond, (L.filter (fun w => !goodWord w)).all (fun w => decide (w ∈ NW)) = true → ∀ w ∈ L.filter (fun w => !goodWord w), w ∈ NW := fun L h w hw => of_decide_eq_true (List.all_eq_true.mp h w hw)
  intro t ht
  rcases ht with rfl | rfl | rfl
  · exact ⟨by decide +kernel, kA (List.mem_of_getElem? (i := 265) (by decide +kernel)) rfl, kA (List.mem_of_getElem? (i := 10) (by decide +kernel)) rfl, aux _ (by decide +kernel), aux2 _ (by decide +kernel), List.all_eq_true.mp (by decide +kernel)⟩
  · exact ⟨by decide +kernel, kA (List.mem_of_getElem? (i := 333) (by decide +kernel)) rfl, kA (List.mem_of_getElem? (i := 11) (by decide +kernel)) rfl, aux _ (by decide +kernel), aux2 _ (by decide +kernel), List.all_eq_true.mp (by decide +kernel)⟩
  · exact ⟨by decide +kernel, kA (List.mem_of_getElem? (i := 408) (by decide +kernel)) rfl, kA (List.mem_of_getElem? (i := 13) (by decide +kernel)) rfl, aux _ (by decide +kernel), aux2 _ (by decide +kernel), List.all_eq_true.mp (by decide +kernel)⟩
section KX
variable {l : Launch} {y : MethodName} {cc : ByteArray} {nL : Nat} {rt : Option FieldType} {rm : Room} {D : va_G} {tys : List (ClassId × FieldType)} {As : List Value} {ws ws' : va_W}
theorem kx_of {tag : Int} (hl : l.stackTraces = false) (hown : y.cls = "MarkingHall") (hy : plainName y.cls = true) (hlen : (lg_sl As).length ≤ nL) (hc : rm.cells = 1) (hs : rm.slots = 6) (hf : 6 ≤ rm.frames) (hlo : 90 ≤ rm.locals)
    (hfst : ws'.map Prod.fst = ws.map Prod.fst)
    (body : ∀ {p : Program} {e : Env} {s : State} {m : MethodId} {args : Array Value} {below : List Frame} {meth : Method} {c : Code} {A : Nat → Prop} {Q : State → Prop}, JC p s m args meth c cc nL "MarkingHall" D tys A → TT A s →
      (∀ (pc : Nat) (lv : List (Nat × Value)) (st : List Value), (st.map fun v => v.category).sum ≤ 8 → TS cc tag pc → J p l e rm s m args below meth c D A nL Q 0 0 ws' pc lv st) →
      (∀ (H : Heap) (locs : List Loc) (ls : Array Slot) (pc : Nat) (st : List Value) (q : Nat) (ce : Cell), va_P D vwCl ws' H → va_D A ws' → va_S A s.heap H locs → H[q]? = some ce → ce.vm = .none → s.vm.findClass (exN tag) = some ce.cls → vx_W p l e rm s m args below meth c H locs 1 6 Q (F0 m pc ls st) q) →
      J p l e rm s m args below meth c D A nL Q 0 0 ws 0 (lv_args 0 As) []) :
    Kx l y cc nL rt rm D tys As ws ws' (exN tag) := by
  intro sz
  refine vx_ofW (cc := cc) (maxL := nL) (ret := rt) hy rfl ?_
  intro p e s m args below meth c s₁ B hml hx hv
  obtain ⟨rfl, hsz, hP, hK, hN, hT, hD0⟩ := hv
  have hts := atoms_spec (ws := Cond.code y cc nL rt :: ALLW) B.pre
  subst hsz
  have hD := hD0.self (sz := s.heap.size)
  have C : JC p s m As.toArray meth c cc nL "MarkingHall" D tys (va_A ws s.heap.size) := ⟨B.exec, B.bytes, hml, by rw [← hown]; exact findClass_of_methodNamed B.named, fun w h => hts w (List.mem_cons_of_mem _ h), B.notSynchronized, hK, fun q h => Or.inr h, hN⟩
  have T := TT_of hT
  have hl0 := lv_entry As (n := nL) hlen
  rw [lg_entry_eq]
  refine body (Q := vx_MQ below _ _ _ s 1 6 _) C T (fun pc lv st hst hTS => ?_) (fun H locs ls pc st q ce hP hD hS hq hv hcl => ?_) s.heap [] _ hP hD va_S.rf hl0
  · intro H locs ls hP hD hS hl2
    obtain ⟨ht, is, text, hmem, d0, d3, d4, d6, d9⟩ := hTS
    obtain ⟨w1, w2, w3, w4, w5, w6⟩ := ex_words tag ht
    obtain ⟨sa, hsa⟩ := T.1 _ hmem
    refine vx_throwS (names := exS) (ik := exK tag) (ic := exC tag) (cls := exN tag) C.1 C.2.1 hl C.2.2.2.1 w1 (by decide +kernel) (C.2.2.2.2.1 _ w2) (C.2.2.2.2.1 _ w3) hsa (vx_hat (B := NW) (fun w h => C.2.2.2.2.1 _ (w4 w h)) w5 (fun w h => va_Nw.use ?_ (hN w h))) w6 T.2.2.1 T.2.2.2 hS (by rw [hl2.1]; exact C.2.2.1.symm) d0 d3 d4 d6 d9 (fun x hx9 => absurd (hx x hx9) id) ?_ ?_ ?_ ?_ C.2.2.2.2.2.1 (fun t hal hz hk => ⟨⟨rfl, ?_⟩, ?_⟩) hS.2.2 (Nat.le_refl _) (Nat.le_refl _)
    · have h1 := List.all_eq_true.mp NW_ok w h
      cases w <;> first | rfl | (simp [isNestW] at h1)
    · show 2 + 3 < rm.frames
      omega
    · show _ + (13 * (2 + 1) + 43) ≤ rm.locals
      omega
    · show 0 + 1 ≤ rm.cells
      omega
    · show 0 + 6 ≤ rm.slots
      omega
    · exact hP.kept (fun k q hkq => hk q.1 ((hP k q hkq).lt))
    · exact ⟨Nat.le_trans hS.1 hz, fun q h1 h2 => by rw [hk q (Nat.lt_of_lt_of_le h1 hS.1)]; exact hS.2.1 q h1 h2⟩
  · exact vx_out (fun x hx9 => absurd (hx x hx9) id) C.2.2.2.2.2.1 hq hv hcl (fun t ht hal => ⟨⟨rfl, by rw [ht]; exact hP⟩, hS.F ht⟩) hS.2.2 (Nat.le_refl _) (Nat.le_refl _)
end KX
theorem kx_blind {As : List Value} {sz : Nat} {D : va_G} {ws : va_W} {tys : List (ClassId × FieldType)} : FrameBlind (va_Pc As (fun U => U.heap.size = sz ∧ va_P D vwCl ws U.heap ∧ va_K D vwCl tys U ∧ NWs U ∧ TE ws U ∧ va_D (fun _ => True) ws)) := by
  intro a U g mk q
  obtain ⟨q0, q1, qP, qK, qN, qT, qD⟩ := q
  exact ⟨q0, q1, qP, va_K.moved (u := U) (U := U.calling g mk a) (Vm.Alike.refl U.vm) qK, NWs.same (u := U) (U := U.calling g mk a) rfl qN, ⟨SRs.same (u := U) (U := U.calling g mk a) rfl qT.1, NCs.moved (u := U) (U := U.calling g mk a) (Vm.Alike.refl U.vm) qT.2.1, Zqs.moved (u := U) (U := U.calling g mk a) (H := U.heap) (Vm.Alike.refl U.vm) qT.2.2⟩, qD⟩
section CALLX
variable {p : Program} {l : Launch} {e : Env} {R : Room} {s : State} {m : MethodId} {args : Array Value} {below : List Frame} {meth : Method} {c : Code} {cc : ByteArray} {nL : Nat} {own : String} {D : va_G} {tys tys' : List (ClassId × FieldType)} {A : Nat → Prop} {Q : State → Prop} {cells slots : Nat} {ws ws1 u wc wc' v : va_W} {pc idx n : Nat} {lv : List (Nat × Value)} {st st0 st1 : List Value}
variable {y : MethodName} {ccY : ByteArray} {nY : Nat} {rtY : Option FieldType} {rmY : Room} {As : List Value} {b : Nat} {E : String}
theorem jx_back {H : Heap} {locs : List Loc} {ls : Array Slot} (C : JC p s m args meth c cc nL own D tys A) (hP : va_P D vwCl (u ++ wc ++ v) H) (hD : va_D A (u ++ wc ++ v)) (hS : va_S A s.heap H locs) (hl : lv_has ls nL lv) (ha : wc'.map Prod.fst = wc.map Prod.fst)
    (run : vx_Run p l e R s m args below meth c H locs cells slots 1 6 (F0 m pc ls st0) st (fun _ _ _ => False) (fun Ec st t => (Ec = E ∧ va_P D vwCl wc' t.heap) ∧ va_F (va_A wc H.size) st t) (va_A wc H.size))
    (k : ∀ (H1 : Heap) (locs1 : List Loc) (q : Nat) (ce : Cell), va_P D vwCl (u ++ wc' ++ v) H1 → va_D A (u ++ wc' ++ v) → va_S A s.heap H1 locs1 → H1[q]? = some ce → ce.vm = .none → s.vm.findClass E = some ce.cls → vx_W p l e R s m args below meth c H1 locs1 (cells + 1) (slots + 6) Q (F0 m pc ls st) q) : W p l e R s m args below meth c H locs cells slots Q (F0 m pc ls st0) := by
  have hFc : ∀ q, va_A wc H.size q → A q := by
    rintro q (⟨k, e', h1⟩ | h1)
    · exact (chunk_sub hP hD).2.2 k _ h1
    · exact C.2.2.2.2.2.2.2.1 q (Nat.le_trans hS.1 h1)
  intro T hT X
  rcases run T hT X with ⟨v, st₀, t, T', L, h0, X', hL, e1, e2, hF, go⟩ | ⟨q, st₀, t, T', L, Ec, ce, h0, X', hL, e1, e2, ⟨⟨hE, hPt⟩, hF⟩, hce, hcv, hcl, go⟩
  · exact hF.elim
  · obtain ⟨hz, hk⟩ := hF
    rw [h0] at hz hk
    rw [← e1] at hz hPt hce
    have hk' : ∀ q : Nat, q < H.size → ¬ va_A wc H.size q → T'.heap[q]? = H[q]? := fun q h1 h2 => by rw [e1]; exact hk q h1 h2
    obtain ⟨hP2, hD2⟩ := chunk_put hP hD ha hk' hPt
    have hS2 : va_S A s.heap T'.heap (locs ++ L) := ⟨Nat.le_trans hS.1 hz, fun q h1 h2 => by rw [hk' q (Nat.lt_of_lt_of_le h1 hS.1) (fun z => h2 (hFc q z))]; exact hS.2.1 q h1 h2, fun q hq => by
      rcases List.mem_append.mp hq with h | h
      · exact hS.2.2 q h
      · exact hFc _ (hL q h)⟩
    obtain ⟨t2, a1, b1⟩ := k T'.heap (locs ++ L) q ce hP2 hD2 hS2 hce hcv (by rw [← hE]; exact hcl) T' rfl X'
    exact ⟨t2, go.trans a1, b1⟩
theorem adr_in {wc : va_W} {sz : Nat} {A : Nat → Prop} (h : va_D A wc) : ∀ q, adr wc q → A q := by
  rintro q ⟨k, e', h1⟩
  exact h.2 k _ h1
theorem jx_callV (C : JC p s m args meth c cc nL own D tys A) (T : TT A s) (hM : Kx l y ccY nY rtY rmY D tys' (.ref b :: As) wc wc' E) (hlink : Cond.methodLink own idx y ∈ ALLW) (hinst : Cond.instanceMethod y ∈ ALLW) (hsel : Cond.selects y.cls y y ∈ ALLW) (hini : Cond.initialized y.cls ∈ ALLW) (hcode : Cond.code y ccY nY rtY ∈ ALLW)
    (hnm : y.cls = y.cls ∧ y.cls ≠ "java/lang/invoke/MethodHandle" ∧ y.cls ≠ "java/lang/invoke/VarHandle" ∧ (parseMethodDescriptor y.desc).map (fun d => d.parameters.length) = some n) (hR : rmY.frames + 1 ≤ R.frames ∧ 8 + (nY + 11) + rmY.locals ≤ R.locals) (hc0 : rmY.cells = 1) (hs0 : rmY.slots = 6)
    (q0 ci : Nat) {fs : List Value} {cq : vw_C} (he : wc[q0]? = some (b, .inr (ci, fs))) (hci : vwCl[ci]? = some cq) (hcq : cq.1 = y.cls) (hn : As.length = n) (hw : u ++ wc ++ v = ws) (hw1 : u ++ wc' ++ v = ws1) (ha : wc'.map Prod.fst = wc.map Prod.fst) (hK' : va_K D vwCl tys' s)
    (hroom : (st.map fun v => v.category).sum ≤ 8) (hst0 : As.reverse ++ .ref b :: st = st0) (hcell : cells + 1 ≤ R.cells) (hslot : slots + 6 ≤ R.slots) (hd : decode cc pc = .ok (.invokevirtual idx, 3))
    (k : ∀ (H1 : Heap) (locs1 : List Loc) (ls : Array Slot) (q : Nat) (ce : Cell), va_P D vwCl ws1 H1 → va_D A ws1 → va_S A s.heap H1 locs1 → lv_has ls nL lv → H1[q]? = some ce → ce.vm = .none → s.vm.findClass E = some ce.cls → vx_W p l e R s m args below meth c H1 locs1 (cells + 1) (slots + 6) Q (F0 m pc ls st) q) : J p l e R s m args below meth c D A nL Q cells slots ws pc lv st0 := by
  subst hw
  subst hw1
  intro H locs ls hP hD hS hl
  obtain ⟨hPc, hDc⟩ := chunk_sub hP hD
  have hg : GoodIn ALLW (wsV own idx y.cls y (Cond.code y ccY nY rtY :: ALLW)) := fun w h => by
    rcases List.mem_append.mp h with h | h
    · simp only [List.mem_cons, List.not_mem_nil, or_false] at h
      rcases h with rfl | rfl | rfl | rfl
      · exact ALLW_self _ hlink
      · exact ALLW_self _ hinst
      · exact ALLW_self _ hsel
      · exact ALLW_self _ hini
    · exact gi_cons hcode ALLW_self w h
  refine jx_back (st := st) C hP hD hS hl ha ?_ (fun H1 locs1 q ce a1 a2 a3 a4 a5 a6 => k H1 locs1 ls q ce a1 a2 a3 hl a4 a5 a6)
  refine vx_runV (As := As) (b := b) (C := y.cls) (bytes := ccY) (maxL := nY) (ret := rtY) (nL := nL) ⟨C.1, C.2.1, C.2.2.1, C.2.2.2.1, C.2.2.2.2.1⟩ (hM H.size) (cwV n C.2.2.2.2.1 hg rfl hc0 hs0 hnm hR) ⟨kx_blind, ?_, fun U hU hW => ⟨rfl, by rw [hU], by rw [hU]; exact hPc, va_K.moved hW.alike hK', NWs.moved hW C.2.2.2.2.2.2.2.2, TE_of T hW hU hS (fun q hq => by obtain ⟨k9, e9, h9⟩ := hq; exact hDc.2 k9 _ h9), hDc.weaken (fun _ _ _ _ => trivial)⟩⟩ rfl hn hl.1 hst0.symm (lv_room hroom) hd ⟨hcell, hslot⟩
  rw [← hcq]
  exact va_recv C.2.2.2.2.2.2.1 hPc hci he
theorem jx_callS (C : JC p s m args meth c cc nL own D tys A) (T : TT A s) (hM : Kx l y ccY nY rtY rmY D tys' As wc wc' E) (hlink : Cond.methodLink own idx y ∈ ALLW) (hstat : Cond.static y ∈ ALLW) (hini : Cond.initialized y.cls ∈ ALLW) (hcode : Cond.code y ccY nY rtY ∈ ALLW)
    (hnm : y.cls ≠ "java/lang/invoke/MethodHandle" ∧ y.cls ≠ "java/lang/invoke/VarHandle" ∧ (parseMethodDescriptor y.desc).map (fun d => d.parameters.length) = some n) (hR : rmY.frames + 1 ≤ R.frames ∧ 8 + (nY + 11) + rmY.locals ≤ R.locals) (hc0 : rmY.cells = 1) (hs0 : rmY.slots = 6)
    (hn : As.length = n) (hw : u ++ wc ++ v = ws) (hw1 : u ++ wc' ++ v = ws1) (ha : wc'.map Prod.fst = wc.map Prod.fst) (hK' : va_K D vwCl tys' s)
    (hroom : (st.map fun v => v.category).sum ≤ 8) (hst0 : As.reverse ++ st = st0) (hcell : cells + 1 ≤ R.cells) (hslot : slots + 6 ≤ R.slots) (hd : decode cc pc = .ok (.invokestatic idx, 3))
    (k : ∀ (H1 : Heap) (locs1 : List Loc) (ls : Array Slot) (q : Nat) (ce : Cell), va_P D vwCl ws1 H1 → va_D A ws1 → va_S A s.heap H1 locs1 → lv_has ls nL lv → H1[q]? = some ce → ce.vm = .none → s.vm.findClass E = some ce.cls → vx_W p l e R s m args below meth c H1 locs1 (cells + 1) (slots + 6) Q (F0 m pc ls st) q) : J p l e R s m args below meth c D A nL Q cells slots ws pc lv st0 := by
  subst hw
  subst hw1
  intro H locs ls hP hD hS hl
  obtain ⟨hPc, hDc⟩ := chunk_sub hP hD
  refine jx_back (st := st) C hP hD hS hl ha ?_ (fun H1 locs1 q ce a1 a2 a3 a4 a5 a6 => k H1 locs1 ls q ce a1 a2 a3 hl a4 a5 a6)
  exact vx_runS (As := As) (bytes := ccY) (maxL := nY) (ret := rtY) (nL := nL) ⟨C.1, C.2.1, C.2.2.1, C.2.2.2.1, C.2.2.2.2.1⟩ (hM H.size) ⟨callB_of n C.2.2.2.2.1 (gi_cons hcode ALLW_self) rfl hc0 hs0 (C.2.2.2.2.1 _ hini) (C.2.2.2.2.1 _ hlink) hnm hR, C.2.2.2.2.1 _ hstat⟩ ⟨kx_blind, fun U hU hW => ⟨rfl, by rw [hU], by rw [hU]; exact hPc, va_K.moved hW.alike hK', NWs.moved hW C.2.2.2.2.2.2.2.2, TE_of T hW hU hS (fun q hq => by obtain ⟨k9, e9, h9⟩ := hq; exact hDc.2 k9 _ h9), hDc.weaken (fun _ _ _ _ => trivial)⟩⟩ rfl hn hl.1 hst0.symm (lv_room hroom) hd ⟨hcell, hslot⟩
end CALLX
theorem TS_ne {cc : ByteArray} {t : Int} {pc : Nat} (h : TS cc t pc) : t ≠ 0 := by
  obtain ⟨h1, -⟩ := h
  omega
section SW
variable {p : Program} {l : Launch} {e : Env} {R : Room} {s : State} {m : MethodId} {args : Array Value} {below : List Frame} {meth : Method} {c : Code} {cc : ByteArray} {nL : Nat} {own : String} {D : va_G} {tys : List (ClassId × FieldType)} {A : Nat → Prop} {Q : State → Prop} {cells slots : Nat} {ws : va_W} {pc : Nat} {lv : List (Nat × Value)} {st : List Value} {ρ : Type} {res : ρ}
theorem j_switch3 (C : JC p s m args meth c cc nL own D tys A) {a dflt o0 o1 o2 : Int} {len : Nat} {T0 T1 T2 TD : Option ρ} (h : G (inR a) (if a = 0 then T0 else if a = 1 then T1 else if a = 2 then T2 else TD) = some res) (t0 t1 t2 td : Nat) (e0 : (pc : Int) + o0 = (t0 : Int)) (e1 : (pc : Int) + o1 = (t1 : Int)) (e2 : (pc : Int) + o2 = (t2 : Int)) (ed : (pc : Int) + dflt = (td : Int))
    (hd : decode cc pc = .ok (.tableswitch dflt 0 2 #[o0, o1, o2], len)) (k0 : T0 = some res → J p l e R s m args below meth c D A nL Q cells slots ws t0 lv st) (k1 : T1 = some res → J p l e R s m args below meth c D A nL Q cells slots ws t1 lv st) (k2 : T2 = some res → J p l e R s m args below meth c D A nL Q cells slots ws t2 lv st) (kd : TD = some res → J p l e R s m args below meth c D A nL Q cells slots ws td lv st) : J p l e R s m args below meth c D A nL Q cells slots ws pc lv (.int (vI a) :: st) := by
  obtain ⟨g, h⟩ := G_of h
  have ha := vI_toInt g
  intro H locs ls hP hD hS hl
  by_cases c0 : a = 0
  · exact lv_tableIn (off := o0) (tgt := t0) C.1 C.2.1 hd (by rw [ha]; omega) (by rw [ha]; omega) (by rw [ha, c0]; rfl) e0 (k0 (if_t h c0) H locs ls hP hD hS hl)
  have h := if_f h c0
  by_cases c1 : a = 1
  · exact lv_tableIn (off := o1) (tgt := t1) C.1 C.2.1 hd (by rw [ha]; omega) (by rw [ha]; omega) (by rw [ha, c1]; rfl) e1 (k1 (if_t h c1) H locs ls hP hD hS hl)
  have h := if_f h c1
  by_cases c2 : a = 2
  · exact lv_tableIn (off := o2) (tgt := t2) C.1 C.2.1 hd (by rw [ha]; omega) (by rw [ha]; omega) (by rw [ha, c2]; rfl) e2 (k2 (if_t h c2) H locs ls hP hD hS hl)
  have h := if_f h c2
  exact lv_tableOut (tgt := td) C.1 C.2.1 hd (by rw [ha]; omega) ed (kd h H locs ls hP hD hS hl)
end SW
section CRX
variable {p : Program} {l : Launch} {e : Env} {R : Room} {s : State} {m : MethodId} {args : Array Value} {below : List Frame} {meth : Method} {c : Code} {cc : ByteArray} {nL : Nat} {D : va_G} {tys : List (ClassId × FieldType)} {A : Nat → Prop} {Q : State → Prop} {cells slots : Nat} {ws : va_W} {pc : Nat} {lv : List (Nat × Value)} {st : List Value} {ρ : Type} {res : ρ}
theorem jq_X5_53 (C : JC p s m args meth c cc nL "MarkingHall" D tys A) (T : TT A s) {tys' : List (ClassId × FieldType)} {ws1 u wc wc' v : va_W} {rmY : Room} {As : List Value} {E : String} {st0 : List Value} (hM : Kx l yX5_needTokens cX5_needTokens 1 none rmY D tys' As wc wc' E) (hR : rmY.frames + 1 ≤ R.frames ∧ 8 + (1 + 11) + rmY.locals ≤ R.locals) (hc0 : rmY.cells = 1) (hs0 : rmY.slots = 6) (hn : As.length = 1) (hw : u ++ wc ++ v = ws) (hw1 : u ++ wc' ++ v = ws1) (ha : wc'.map Prod.fst = wc.map Prod.fst) (hK' : va_K D vwCl tys' s) (hroom : (st.map fun v => v.category).sum ≤ 8) (hst0 : As.reverse ++ st = st0) (hcell : cells + 1 ≤ R.cells) (hslot : slots + 6 ≤ R.slots) (hd : decode cc pc = .ok (.invokestatic 53, 3)) (k : ∀ (H1 : Heap) (locs1 : List Loc) (ls : Array Slot) (q : Nat) (ce : Cell), va_P D vwCl ws1 H1 → va_D A ws1 → va_S A s.heap H1 locs1 → lv_has ls nL lv → H1[q]? = some ce → ce.vm = .none → s.vm.findClass E = some ce.cls → vx_W p l e R s m args below meth c H1 locs1 (cells + 1) (slots + 6) Q (F0 m pc ls st) q) : J p l e R s m args below meth c D A nL Q cells slots ws pc lv st0 :=
  jx_callS C T hM w262 w263 w1 w264 (by decide +kernel) hR hc0 hs0 hn hw hw1 ha hK' hroom hst0 hcell hslot hd k
theorem jq_X5_84 (C : JC p s m args meth c cc nL "MarkingHall" D tys A) (T : TT A s) {tys' : List (ClassId × FieldType)} {ws1 u wc wc' v : va_W} {rmY : Room} {As : List Value} {b : Nat} {E : String} {st0 : List Value} (hM : Kx l yX5_needPlace cX5_needPlace 2 none rmY D tys' (.ref b :: As) wc wc' E) (hR : rmY.frames + 1 ≤ R.frames ∧ 8 + (2 + 11) + rmY.locals ≤ R.locals) (hc0 : rmY.cells = 1) (hs0 : rmY.slots = 6) (q0 : Nat) {fs : List Value} (he : wc[q0]? = some (b, .inr (5, fs))) (hn : As.length = 1) (hw : u ++ wc ++ v = ws) (hw1 : u ++ wc' ++ v = ws1) (ha : wc'.map Prod.fst = wc.map Prod.fst) (hK' : va_K D vwCl tys' s) (hroom : (st.map fun v => v.category).sum ≤ 8) (hst0 : As.reverse ++ .ref b :: st = st0) (hcell : cells + 1 ≤ R.cells) (hslot : slots + 6 ≤ R.slots) (hd : decode cc pc = .ok (.invokevirtual 84, 3)) (k : ∀ (H1 : Heap) (locs1 : List Loc) (ls : Array Slot) (q : Nat) (ce : Cell), va_P D vwCl ws1 H1 → va_D A ws1 → va_S A s.heap H1 locs1 → lv_has ls nL lv → H1[q]? = some ce → ce.vm = .none → s.vm.findClass E = some ce.cls → vx_W p l e R s m args below meth c H1 locs1 (cells + 1) (slots + 6) Q (F0 m pc ls st) q) : J p l e R s m args below meth c D A nL Q cells slots ws pc lv st0 :=
  jx_callV C T hM w424 w426 wz6 w1 w427 (by decide +kernel) hR hc0 hs0 q0 5 he rfl rfl hn hw hw1 ha hK' hroom hst0 hcell hslot hd k
theorem jq_X5_81 (C : JC p s m args meth c cc nL "MarkingHall" D tys A) (T : TT A s) {tys' : List (ClassId × FieldType)} {ws1 u wc wc' v : va_W} {rmY : Room} {As : List Value} {b : Nat} {E : String} {st0 : List Value} (hM : Kx l yX5_needFiring cX5_needFiring 2 none rmY D tys' (.ref b :: As) wc wc' E) (hR : rmY.frames + 1 ≤ R.frames ∧ 8 + (2 + 11) + rmY.locals ≤ R.locals) (hc0 : rmY.cells = 1) (hs0 : rmY.slots = 6) (q0 : Nat) {fs : List Value} (he : wc[q0]? = some (b, .inr (5, fs))) (hn : As.length = 1) (hw : u ++ wc ++ v = ws) (hw1 : u ++ wc' ++ v = ws1) (ha : wc'.map Prod.fst = wc.map Prod.fst) (hK' : va_K D vwCl tys' s) (hroom : (st.map fun v => v.category).sum ≤ 8) (hst0 : As.reverse ++ .ref b :: st = st0) (hcell : cells + 1 ≤ R.cells) (hslot : slots + 6 ≤ R.slots) (hd : decode cc pc = .ok (.invokevirtual 81, 3)) (k : ∀ (H1 : Heap) (locs1 : List Loc) (ls : Array Slot) (q : Nat) (ce : Cell), va_P D vwCl ws1 H1 → va_D A ws1 → va_S A s.heap H1 locs1 → lv_has ls nL lv → H1[q]? = some ce → ce.vm = .none → s.vm.findClass E = some ce.cls → vx_W p l e R s m args below meth c H1 locs1 (cells + 1) (slots + 6) Q (F0 m pc ls st) q) : J p l e R s m args below meth c D A nL Q cells slots ws pc lv st0 :=
  jx_callV C T hM w404 w406 wz5 w1 w407 (by decide +kernel) hR hc0 hs0 q0 5 he rfl rfl hn hw hw1 ha hK' hroom hst0 hcell hslot hd k
end CRX
