/-! contracts of the law's methods: they lay exceptions, and leave a world of which a predicate tells -/
theorem K_left {D : va_G} {cl : List vw_C} {t1 t2 : List (ClassId × FieldType)} {U : State} (h : va_K D cl (t1 ++ t2) U) : va_K D cl t1 U :=
  ⟨h.1, fun k q hk => h.2 k q (by rw [List.getElem?_append_left (List.getElem?_eq_some_iff.mp hk).1]; exact hk)⟩
theorem K_right {D : va_G} {cl : List vw_C} {t1 t2 : List (ClassId × FieldType)} {U : State} (h : va_K D cl (t1 ++ t2) U) : va_K D cl t2 U :=
  ⟨h.1, fun k q hk => h.2 (t1.length + k) q (by rw [List.getElem?_append_right (by omega), Nat.add_sub_cancel_left]; exact hk)⟩
def Ke (l : Launch) (y : MethodName) (cw : Cond) (rm : Room) (D : va_G) (tys : List (ClassId × FieldType)) (As : List Value) (ws : va_W) (Pw : va_W → Prop) (k : Int) (mc ms : Nat) : Prop :=
  ∀ sz : Nat, Met l y (cw :: ALLW) rm (va_Pc As (fun U => U.heap.size = sz ∧ va_P D vwCl ws U.heap ∧ va_K D vwCl tys U ∧ NWs U ∧ TE ws U ∧ va_D (fun _ => True) ws)) (fun _ st o t => (o = .returned (some (.int (vI k))) ∧ ∃ ws', (Pw ws' ∧ ws'.map Prod.fst = ws.map Prod.fst) ∧ va_P D vwCl ws' t.heap) ∧ va_F (va_A ws sz) st t) mc ms (va_A ws sz)
section KE
variable {l : Launch} {y : MethodName} {cc : ByteArray} {nL : Nat} {hh : List (Nat × Nat × Nat × Nat)} {rm : Room} {D : va_G} {tys : List (ClassId × FieldType)} {As : List Value} {ws : va_W} {Pw : va_W → Prop} {mc ms : Nat}
theorem ke_of {k : Int} (hown : y.cls = "MarkingHallLaw") (hy : plainName y.cls = true) (hlen : (lg_sl As).length ≤ nL)
    (body : ∀ {p : Program} {e : Env} {s : State} {m : MethodId} {args : Array Value} {below : List Frame} {meth : Method} {c : Code} {A : Nat → Prop} {Q : State → Prop}, JC p s m args meth c cc nL "MarkingHallLaw" D tys A → TT A s → c.exceptionTable.toList = tableOf hh →
      (∀ (ws' : va_W) (pc : Nat) (lv : List (Nat × Value)), Pw ws' → ws'.map Prod.fst = ws.map Prod.fst → decode cc pc = .ok (.ireturn, 1) → J p l e rm s m args below meth c D A nL Q mc ms ws' pc lv [.int (vI k)]) → J p l e rm s m args below meth c D A nL Q 0 0 ws 0 (lv_args 0 As) []) :
    Ke l y (Cond.codeWith y cc nL (some .int) hh) rm D tys As ws Pw k mc ms := by
  intro sz
  refine va_MetW (cc := cc) (maxL := nL) (ret := some .int) (hh := hh) hy rfl ?_
  intro p e s m args below meth c s₁ B hml hv
  obtain ⟨rfl, hsz, hP, hK, hN, hT, hD0⟩ := hv
  have hts := atoms_spec (ws := Cond.codeWith y cc nL (some .int) hh :: ALLW) B.pre
  subst hsz
  have hD := hD0.self (sz := s.heap.size)
  have C : JC p s m As.toArray meth c cc nL "MarkingHallLaw" D tys (va_A ws s.heap.size) := ⟨B.exec, B.bytes, hml, by rw [← hown]; exact findClass_of_methodNamed B.named, fun w h => hts w (List.mem_cons_of_mem _ h), B.notSynchronized, hK, fun q h => Or.inr h, hN⟩
  have hl0 := lv_entry As (n := nL) hlen
  rw [lg_entry_eq]
  refine body C (TT_of hT) (vx_table (x := y) B (hts _ List.mem_cons_self)) (fun ws' pc lv hp ha hd => ?_) s.heap [] _ hP hD va_S.rf hl0
  intro H locs ls hP hD hS hl
  exact W.iret C.1 C.2.1 B.returns (fun t ht hW => ⟨⟨rfl, ws', ⟨hp, ha⟩, by rw [ht]; exact hP⟩, hS.F ht⟩) hS.2.2 hd C.2.2.2.2.2.1
theorem kn_of {k : Int} (hown : y.cls = "MarkingHallLaw") (hy : plainName y.cls = true) (hlen : (lg_sl As).length ≤ nL)
    (body : ∀ {p : Program} {e : Env} {s : State} {m : MethodId} {args : Array Value} {below : List Frame} {meth : Method} {c : Code} {A : Nat → Prop} {Q : State → Prop}, JC p s m args meth c cc nL "MarkingHallLaw" D tys A → TT A s →
      (∀ (ws' : va_W) (pc : Nat) (lv : List (Nat × Value)), Pw ws' → ws'.map Prod.fst = ws.map Prod.fst → decode cc pc = .ok (.ireturn, 1) → J p l e rm s m args below meth c D A nL Q mc ms ws' pc lv [.int (vI k)]) → J p l e rm s m args below meth c D A nL Q 0 0 ws 0 (lv_args 0 As) []) :
    Ke l y (Cond.code y cc nL (some .int)) rm D tys As ws Pw k mc ms := by
  intro sz
  refine Met.ofW (cc := cc) (maxL := nL) (ret := some .int) hy rfl ?_
  intro p e s m args below meth c s₁ B hml hv
  obtain ⟨rfl, hsz, hP, hK, hN, hT, hD0⟩ := hv
  have hts := atoms_spec (ws := Cond.code y cc nL (some .int) :: ALLW) B.pre
  subst hsz
  have hD := hD0.self (sz := s.heap.size)
  have C : JC p s m As.toArray meth c cc nL "MarkingHallLaw" D tys (va_A ws s.heap.size) := ⟨B.exec, B.bytes, hml, by rw [← hown]; exact findClass_of_methodNamed B.named, fun w h => hts w (List.mem_cons_of_mem _ h), B.notSynchronized, hK, fun q h => Or.inr h, hN⟩
  have hl0 := lv_entry As (n := nL) hlen
  rw [lg_entry_eq]
  refine body C (TT_of hT) (fun ws' pc lv hp ha hd => ?_) s.heap [] _ hP hD va_S.rf hl0
  intro H locs ls hP hD hS hl
  exact W.iret C.1 C.2.1 B.returns (fun t ht hW => ⟨⟨rfl, ws', ⟨hp, ha⟩, by rw [ht]; exact hP⟩, hS.F ht⟩) hS.2.2 hd C.2.2.2.2.2.1
theorem kz_of {k : Int} (hown : y.cls = "MarkingHallLaw") (hy : plainName y.cls = true) (hlen : (lg_sl As).length ≤ nL)
    (body : ∀ {p : Program} {e : Env} {s : State} {m : MethodId} {args : Array Value} {below : List Frame} {meth : Method} {c : Code} {A : Nat → Prop} {Q : State → Prop}, JC p s m args meth c cc nL "MarkingHallLaw" D tys A → TT A s →
      (∀ (ws' : va_W) (pc : Nat) (lv : List (Nat × Value)), Pw ws' → ws'.map Prod.fst = ws.map Prod.fst → (k = 0 ∨ k = 1) → decode cc pc = .ok (.ireturn, 1) → J p l e rm s m args below meth c D A nL Q mc ms ws' pc lv [.int (vI k)]) → J p l e rm s m args below meth c D A nL Q 0 0 ws 0 (lv_args 0 As) []) :
    Ke l y (Cond.code y cc nL (some .boolean)) rm D tys As ws Pw k mc ms := by
  intro sz
  refine Met.ofW (cc := cc) (maxL := nL) (ret := some .boolean) hy rfl ?_
  intro p e s m args below meth c s₁ B hml hv
  obtain ⟨rfl, hsz, hP, hK, hN, hT, hD0⟩ := hv
  have hts := atoms_spec (ws := Cond.code y cc nL (some .boolean) :: ALLW) B.pre
  subst hsz
  have hD := hD0.self (sz := s.heap.size)
  have C : JC p s m As.toArray meth c cc nL "MarkingHallLaw" D tys (va_A ws s.heap.size) := ⟨B.exec, B.bytes, hml, by rw [← hown]; exact findClass_of_methodNamed B.named, fun w h => hts w (List.mem_cons_of_mem _ h), B.notSynchronized, hK, fun q h => Or.inr h, hN⟩
  have hl0 := lv_entry As (n := nL) hlen
  rw [lg_entry_eq]
  refine body C (TT_of hT) (fun ws' pc lv hp ha hz hd => ?_) s.heap [] _ hP hD va_S.rf hl0
  intro H locs ls hP hD hS hl
  exact W.zret (ty := .boolean) C.1 C.2.1 B.returns (nar_bool' hz) (fun t ht hW => ⟨⟨rfl, ws', ⟨hp, ha⟩, by rw [ht]; exact hP⟩, hS.F ht⟩) hS.2.2 hd C.2.2.2.2.2.1
end KE
section WR
variable {p : Program} {l : Launch} {e : Env} {R : Room} {s : State} {m : MethodId} {args : Array Value} {below : List Frame} {meth : Method} {c : Code} {cc : ByteArray} {nL : Nat} {own : String} {D : va_G} {tys tys' : List (ClassId × FieldType)} {A : Nat → Prop} {Q : State → Prop} {cells slots : Nat} {ws u wc v : va_W} {Pw : va_W → Prop} {pc idx n : Nat} {lv : List (Nat × Value)} {st st0 : List Value}
variable {y : MethodName} {ccY : ByteArray} {nY : Nat} {hh : List (Nat × Nat × Nat × Nat)} {rt : Option FieldType} {rmY : Room} {As : List Value} {k : Int} {mc ms : Nat}
theorem j_wide {c1 s1 : Nat} (h1 : cells ≤ c1) (h2 : slots ≤ s1) (kk : J p l e R s m args below meth c D A nL Q c1 s1 ws pc lv st) : J p l e R s m args below meth c D A nL Q cells slots ws pc lv st :=
  fun H locs ls hP hD hS hl => W.widen h1 h2 (kk H locs ls hP hD hS hl)
theorem j_astore_n (C : JC p s m args meth c cc nL own D tys A) {k : Fin 4} {i : Nat} {x : Nat} (lv' : List (Nat × Value)) (hl' : lvS i (.ref x) lv = lv') (hi : (k : Nat) = i) (hn : i < nL) (hd : decode cc pc = .ok (.astore_n k, 1)) (kk : J p l e R s m args below meth c D A nL Q cells slots ws (pc + 1) lv' st) : J p l e R s m args below meth c D A nL Q cells slots ws pc lv (.ref x :: st) :=
  fun H locs ls hP hD hS hl => lv_astore_n C.1 C.2.1 hd hi hl hn hl' (fun ls hl => kk H locs ls hP hD hS hl)
theorem j_astore (C : JC p s m args meth c cc nL own D tys A) {i : Nat} {x : Nat} (lv' : List (Nat × Value)) (hl' : lvS i (.ref x) lv = lv') (hn : i < nL) (hd : decode cc pc = .ok (.astore i, 2)) (kk : J p l e R s m args below meth c D A nL Q cells slots ws (pc + 2) lv' st) : J p l e R s m args below meth c D A nL Q cells slots ws pc lv (.ref x :: st) :=
  fun H locs ls hP hD hS hl => lv_astore C.1 C.2.1 hd hl hn hl' (fun ls hl => kk H locs ls hP hD hS hl)
theorem je_back {H : Heap} {locs : List Loc} {ls : Array Slot} (C : JC p s m args meth c cc nL own D tys A) (hP : va_P D vwCl (u ++ wc ++ v) H) (hD : va_D A (u ++ wc ++ v)) (hS : va_S A s.heap H locs) (hl : lv_has ls nL lv)
    (run : va_Run p l e R s m args below meth c H locs cells slots mc ms (F0 m pc ls st0) st (fun st o t => (o = .returned (some (.int (vI k))) ∧ ∃ ws', (Pw ws' ∧ ws'.map Prod.fst = wc.map Prod.fst) ∧ va_P D vwCl ws' t.heap) ∧ va_F (va_A wc H.size) st t) (va_A wc H.size))
    (kk : ∀ wc', Pw wc' → wc'.map Prod.fst = wc.map Prod.fst → J p l e R s m args below meth c D A nL Q (cells + mc) (slots + ms) (u ++ wc' ++ v) (pc + 3) lv (.int (vI k) :: st)) : W p l e R s m args below meth c H locs cells slots Q (F0 m pc ls st0) := by
  obtain ⟨hPc, hDc⟩ := chunk_sub hP hD
  have hFc : ∀ q, va_A wc H.size q → A q := by
    rintro q (⟨k, e', h1⟩ | h1)
    · exact hDc.2 k _ h1
    · exact C.2.2.2.2.2.2.2.1 q (Nat.le_trans hS.1 h1)
  intro T9 hT9 X9
  obtain ⟨r, st₀, t, T', L, h0, X', hL, e1, e2, ⟨⟨hv, wc', ⟨hpw, ha⟩, hPt⟩, hF⟩, go⟩ := run T9 hT9 X9
  cases hv
  obtain ⟨hz, hk⟩ := hF
  rw [h0] at hz hk
  rw [← e1] at hz hPt
  have hk' : ∀ q : Nat, q < H.size → ¬ va_A wc H.size q → T'.heap[q]? = H[q]? := fun q h1 h2 => by rw [e1]; exact hk q h1 h2
  obtain ⟨hP2, hD2⟩ := chunk_put hP hD ha hk' hPt
  have hS2 : va_S A s.heap T'.heap (locs ++ L) := ⟨Nat.le_trans hS.1 hz, fun q h1 h2 => by rw [hk' q (Nat.lt_of_lt_of_le h1 hS.1) (fun z => h2 (hFc q z))]; exact hS.2.1 q h1 h2, fun q hq => by
    rcases List.mem_append.mp hq with h | h
    · exact hS.2.2 q h
    · exact hFc _ (hL q h)⟩
  obtain ⟨t2, a1, b1⟩ := kk wc' hpw ha T'.heap (locs ++ L) ls hP2 hD2 hS2 hl T' rfl X'
  exact ⟨t2, go t2 a1, b1⟩
theorem j_callE (C : JC p s m args meth c cc nL own D tys A) (T : TT A s) (hM : Ke l y (Cond.codeWith y ccY nY (some .int) hh) rmY D tys' As wc Pw k mc ms) (hlink : Cond.methodLink own idx y ∈ ALLW) (hstat : Cond.static y ∈ ALLW) (hini : Cond.initialized y.cls ∈ ALLW) (hcode : Cond.codeWith y ccY nY (some .int) hh ∈ ALLW)
    (hnm : y.cls ≠ "java/lang/invoke/MethodHandle" ∧ y.cls ≠ "java/lang/invoke/VarHandle" ∧ (parseMethodDescriptor y.desc).map (fun d => d.parameters.length) = some n) (hR : rmY.frames + 1 ≤ R.frames ∧ 8 + (nY + 11) + rmY.locals ≤ R.locals) (hc0 : rmY.cells = mc) (hs0 : rmY.slots = ms)
    (hn : As.length = n) (hw : u ++ wc ++ v = ws) (hK' : va_K D vwCl tys' s) (hroom : (st.map fun v => v.category).sum ≤ 8) (hst0 : As.reverse ++ st = st0) (hcell : cells + mc ≤ R.cells) (hslot : slots + ms ≤ R.slots) (hd : decode cc pc = .ok (.invokestatic idx, 3))
    (kk : ∀ wc', Pw wc' → wc'.map Prod.fst = wc.map Prod.fst → J p l e R s m args below meth c D A nL Q (cells + mc) (slots + ms) (u ++ wc' ++ v) (pc + 3) lv (.int (vI k) :: st)) : J p l e R s m args below meth c D A nL Q cells slots ws pc lv st0 := by
  subst hw
  intro H locs ls hP hD hS hl
  obtain ⟨hPc, hDc⟩ := chunk_sub hP hD
  have hg : GoodIn ALLW (va_wsS own idx y (Cond.codeWith y ccY nY (some .int) hh :: ALLW)) := fun w h => by
    rcases List.mem_append.mp h with h | h
    · simp only [List.mem_cons, List.not_mem_nil, or_false] at h
      rcases h with rfl | rfl | rfl
      · exact ALLW_self _ hlink
      · exact ALLW_self _ hstat
      · exact ALLW_self _ hini
    · exact gi_cons hcode ALLW_self w h
  refine je_back C hP hD hS hl ?_ kk
  exact vx_runSW (As := As) (bytes := ccY) (maxL := nY) (ret := some .int) (nL := nL) ⟨C.1, C.2.1, C.2.2.1, C.2.2.2.1, C.2.2.2.2.1⟩ (hM H.size) (vx_cwSW n C.2.2.2.2.1 hg rfl hc0 hs0 hnm hR) ⟨kx_blind, fun U hU hW => ⟨rfl, by rw [hU], by rw [hU]; exact hPc, va_K.moved hW.alike hK', NWs.moved hW C.2.2.2.2.2.2.2.2, TE_of T hW hU hS (fun q hq => by obtain ⟨k9, e9, h9⟩ := hq; exact hDc.2 k9 _ h9), hDc.weaken (fun _ _ _ _ => trivial)⟩⟩ rfl hn hl.1 hst0.symm (lv_room hroom) hd ⟨hcell, hslot⟩
theorem j_callN (C : JC p s m args meth c cc nL own D tys A) (T : TT A s) (hM : Ke l y (Cond.code y ccY nY rt) rmY D tys' As wc Pw k mc ms) (hlink : Cond.methodLink own idx y ∈ ALLW) (hstat : Cond.static y ∈ ALLW) (hini : Cond.initialized y.cls ∈ ALLW) (hcode : Cond.code y ccY nY rt ∈ ALLW)
    (hnm : y.cls ≠ "java/lang/invoke/MethodHandle" ∧ y.cls ≠ "java/lang/invoke/VarHandle" ∧ (parseMethodDescriptor y.desc).map (fun d => d.parameters.length) = some n) (hR : rmY.frames + 1 ≤ R.frames ∧ 8 + (nY + 11) + rmY.locals ≤ R.locals) (hc0 : rmY.cells = mc) (hs0 : rmY.slots = ms)
    (hn : As.length = n) (hw : u ++ wc ++ v = ws) (hK' : va_K D vwCl tys' s) (hroom : (st.map fun v => v.category).sum ≤ 8) (hst0 : As.reverse ++ st = st0) (hcell : cells + mc ≤ R.cells) (hslot : slots + ms ≤ R.slots) (hd : decode cc pc = .ok (.invokestatic idx, 3))
    (kk : ∀ wc', Pw wc' → wc'.map Prod.fst = wc.map Prod.fst → J p l e R s m args below meth c D A nL Q (cells + mc) (slots + ms) (u ++ wc' ++ v) (pc + 3) lv (.int (vI k) :: st)) : J p l e R s m args below meth c D A nL Q cells slots ws pc lv st0 := by
  subst hw
  intro H locs ls hP hD hS hl
  obtain ⟨hPc, hDc⟩ := chunk_sub hP hD
  refine je_back C hP hD hS hl ?_ kk
  exact va_runS (As := As) (bytes := ccY) (maxL := nY) (ret := rt) (nL := nL) ⟨C.1, C.2.1, C.2.2.1, C.2.2.2.1, C.2.2.2.2.1⟩ (hM H.size) ⟨callB_of n C.2.2.2.2.1 (gi_cons hcode ALLW_self) rfl hc0 hs0 (C.2.2.2.2.1 _ hini) (C.2.2.2.2.1 _ hlink) hnm hR, C.2.2.2.2.1 _ hstat⟩ ⟨kx_blind, fun U hU hW => ⟨rfl, by rw [hU], by rw [hU]; exact hPc, va_K.moved hW.alike hK', NWs.moved hW C.2.2.2.2.2.2.2.2, TE_of T hW hU hS (fun q hq => by obtain ⟨k9, e9, h9⟩ := hq; exact hDc.2 k9 _ h9), hDc.weaken (fun _ _ _ _ => trivial)⟩⟩ rfl hn hl.1 hst0.symm (lv_room hroom) hd ⟨hcell, hslot⟩
end WR
section TSW
variable {p : Program} {l : Launch} {e : Env} {R : Room} {s : State} {m : MethodId} {args : Array Value} {below : List Frame} {meth : Method} {c : Code} {cc : ByteArray} {nL : Nat} {own : String} {D : va_G} {tys : List (ClassId × FieldType)} {A : Nat → Prop} {Q : State → Prop} {cells slots : Nat} {ws : va_W} {pc : Nat} {lv : List (Nat × Value)} {st : List Value}
theorem j_tsw (C : JC p s m args meth c cc nL own D tys A) {a dflt hi : Int} {offs : Array Int} {len : Nat} (g : inR a) (k : Nat) (ha : a = (k : Int)) {off : Int} (tgt : Nat) (ho : offs[k]? = some off) (hh : (k : Int) ≤ hi) (ht : (pc : Int) + off = (tgt : Int)) (hd : decode cc pc = .ok (.tableswitch dflt 0 hi offs, len)) (kk : J p l e R s m args below meth c D A nL Q cells slots ws tgt lv st) : J p l e R s m args below meth c D A nL Q cells slots ws pc lv (.int (vI a) :: st) := by
  have h1 := vI_toInt g
  intro H locs ls hP hD hS hl
  refine lv_tableIn (off := off) (tgt := tgt) C.1 C.2.1 hd (by rw [h1, ha]; omega) (by rw [h1, ha]; omega) ?_ ht (kk H locs ls hP hD hS hl)
  rw [h1, ha, Int.sub_zero, Int.toNat_natCast]
  exact ho
theorem j_tswd (C : JC p s m args meth c cc nL own D tys A) {a dflt hi : Int} {offs : Array Int} {len : Nat} (g : inR a) (ha : a < 0 ∨ hi < a) (tgt : Nat) (ht : (pc : Int) + dflt = (tgt : Int)) (hd : decode cc pc = .ok (.tableswitch dflt 0 hi offs, len)) (kk : J p l e R s m args below meth c D A nL Q cells slots ws tgt lv st) : J p l e R s m args below meth c D A nL Q cells slots ws pc lv (.int (vI a) :: st) := by
  have h1 := vI_toInt g
  intro H locs ls hP hD hS hl
  exact lv_tableOut (tgt := tgt) C.1 C.2.1 hd (by rw [h1]; exact ha) ht (kk H locs ls hP hD hS hl)
end TSW
