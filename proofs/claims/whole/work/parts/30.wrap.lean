/-! the law's wrappers: a call of the class in a try, its answer laid into out[0] -/
theorem K_left {D : va_G} {cl : List vw_C} {t1 t2 : List (ClassId × FieldType)} {U : State} (h : va_K D cl (t1 ++ t2) U) : va_K D cl t1 U :=
  ⟨h.1, fun k q hk => h.2 k q (by rw [List.getElem?_append_left (List.getElem?_eq_some_iff.mp hk).1]; exact hk)⟩
def Kw (l : Launch) (y : MethodName) (cc : ByteArray) (nL : Nat) (hh : List (Nat × Nat × Nat × Nat)) (rm : Room) (D : va_G) (tys : List (ClassId × FieldType)) (As : List Value) (ws ws' : va_W) (k : Int) : Prop :=
  ∀ sz : Nat, Met l y (Cond.codeWith y cc nL (some .int) hh :: ALLW) rm (va_Pc As (fun U => U.heap.size = sz ∧ va_P D vwCl ws U.heap ∧ va_K D vwCl tys U ∧ NWs U ∧ TE ws U ∧ va_D (fun _ => True) ws)) (fun _ st o t => (o = .returned (some (.int (vI k))) ∧ va_P D vwCl ws' t.heap) ∧ va_F (va_A ws sz) st t) 1 6 (va_A ws sz)
section KW
variable {l : Launch} {y : MethodName} {cc : ByteArray} {nL : Nat} {hh : List (Nat × Nat × Nat × Nat)} {rm : Room} {D : va_G} {tys : List (ClassId × FieldType)} {As : List Value} {ws ws' : va_W}
theorem kw_of {k : Int} (hown : y.cls = "MarkingHallLaw") (hy : plainName y.cls = true) (hlen : (lg_sl As).length ≤ nL)
    (body : ∀ {p : Program} {e : Env} {s : State} {m : MethodId} {args : Array Value} {below : List Frame} {meth : Method} {c : Code} {A : Nat → Prop} {Q : State → Prop}, JC p s m args meth c cc nL "MarkingHallLaw" D tys A → TT A s → c.exceptionTable.toList = tableOf hh →
      (∀ (pc : Nat) (lv : List (Nat × Value)), decode cc pc = .ok (.ireturn, 1) → J p l e rm s m args below meth c D A nL Q 1 6 ws' pc lv [.int (vI k)]) → J p l e rm s m args below meth c D A nL Q 0 0 ws 0 (lv_args 0 As) []) :
    Kw l y cc nL hh rm D tys As ws ws' k := by
  intro sz
  refine va_MetW (cc := cc) (maxL := nL) (ret := some .int) (hh := hh) hy rfl ?_
  intro p e s m args below meth c s₁ B hml hv
  obtain ⟨rfl, hsz, hP, hK, hN, hT, hD0⟩ := hv
  have hts := atoms_spec (ws := Cond.codeWith y cc nL (some .int) hh :: ALLW) B.pre
  subst hsz
  have hD := hD0.self (sz := s.heap.size)
  have C : JC p s m As.toArray meth c cc nL "MarkingHallLaw" D tys (va_A ws s.heap.size) := ⟨B.exec, B.bytes, hml, by rw [← hown]; exact findClass_of_methodNamed B.named, fun w h => hts w (List.mem_cons_of_mem _ h), B.notSynchronized, hK, fun q h => Or.inr h, hN⟩
  have hl0 := lv_entry As (n := nL) hlen
  rw [lg_entry_eq]
  refine body C (TT_of hT) (vx_table (x := y) B (hts _ List.mem_cons_self)) (fun pc lv hd => ?_) s.heap [] _ hP hD va_S.rf hl0
  intro H locs ls hP hD hS hl
  exact W.iret C.1 C.2.1 B.returns (fun t ht hW => ⟨⟨rfl, by rw [ht]; exact hP⟩, hS.F ht⟩) hS.2.2 hd C.2.2.2.2.2.1
end KW
section WR
variable {p : Program} {l : Launch} {e : Env} {R : Room} {s : State} {m : MethodId} {args : Array Value} {below : List Frame} {meth : Method} {c : Code} {cc : ByteArray} {nL : Nat} {own : String} {D : va_G} {tys tys' : List (ClassId × FieldType)} {A : Nat → Prop} {Q : State → Prop} {cells slots : Nat} {ws ws1 u wc wc' v : va_W} {pc idx n : Nat} {lv : List (Nat × Value)} {st st0 st1 : List Value}
variable {y : MethodName} {ccY : ByteArray} {nY : Nat} {hh : List (Nat × Nat × Nat × Nat)} {rmY : Room} {As : List Value} {k : Int}
theorem j_wide {c1 s1 : Nat} (h1 : cells ≤ c1) (h2 : slots ≤ s1) (kk : J p l e R s m args below meth c D A nL Q c1 s1 ws pc lv st) : J p l e R s m args below meth c D A nL Q cells slots ws pc lv st :=
  fun H locs ls hP hD hS hl => W.widen h1 h2 (kk H locs ls hP hD hS hl)
theorem j_astore_n (C : JC p s m args meth c cc nL own D tys A) {k : Fin 4} {i : Nat} {x : Nat} (lv' : List (Nat × Value)) (hl' : lvS i (.ref x) lv = lv') (hi : (k : Nat) = i) (hn : i < nL) (hd : decode cc pc = .ok (.astore_n k, 1)) (kk : J p l e R s m args below meth c D A nL Q cells slots ws (pc + 1) lv' st) : J p l e R s m args below meth c D A nL Q cells slots ws pc lv (.ref x :: st) :=
  fun H locs ls hP hD hS hl => lv_astore_n C.1 C.2.1 hd hi hl hn hl' (fun ls hl => kk H locs ls hP hD hS hl)
theorem j_astore (C : JC p s m args meth c cc nL own D tys A) {i : Nat} {x : Nat} (lv' : List (Nat × Value)) (hl' : lvS i (.ref x) lv = lv') (hn : i < nL) (hd : decode cc pc = .ok (.astore i, 2)) (kk : J p l e R s m args below meth c D A nL Q cells slots ws (pc + 2) lv' st) : J p l e R s m args below meth c D A nL Q cells slots ws pc lv (.ref x :: st) :=
  fun H locs ls hP hD hS hl => lv_astore C.1 C.2.1 hd hl hn hl' (fun ls hl => kk H locs ls hP hD hS hl)
theorem j_callW (C : JC p s m args meth c cc nL own D tys A) (T : TT A s) (hM : Kw l y ccY nY hh rmY D tys' As wc wc' k) (hlink : Cond.methodLink own idx y ∈ ALLW) (hstat : Cond.static y ∈ ALLW) (hini : Cond.initialized y.cls ∈ ALLW) (hcode : Cond.codeWith y ccY nY (some .int) hh ∈ ALLW)
    (hnm : y.cls ≠ "java/lang/invoke/MethodHandle" ∧ y.cls ≠ "java/lang/invoke/VarHandle" ∧ (parseMethodDescriptor y.desc).map (fun d => d.parameters.length) = some n) (hR : rmY.frames + 1 ≤ R.frames ∧ 8 + (nY + 11) + rmY.locals ≤ R.locals) (hc0 : rmY.cells = 1) (hs0 : rmY.slots = 6)
    (hn : As.length = n) (hw : u ++ wc ++ v = ws) (hw1 : u ++ wc' ++ v = ws1) (ha : wc'.map Prod.fst = wc.map Prod.fst) (hK' : va_K D vwCl tys' s)
    (hroom : (st.map fun v => v.category).sum ≤ 8) (hst0 : As.reverse ++ st = st0) (hcell : cells + 1 ≤ R.cells) (hslot : slots + 6 ≤ R.slots) (hd : decode cc pc = .ok (.invokestatic idx, 3))
    (kk : J p l e R s m args below meth c D A nL Q (cells + 1) (slots + 6) ws1 (pc + 3) lv (.int (vI k) :: st)) : J p l e R s m args below meth c D A nL Q cells slots ws pc lv st0 := by
  subst hw
  subst hw1
  intro H locs ls hP hD hS hl
  obtain ⟨hPc, hDc⟩ := chunk_sub hP hD
  have hFc : ∀ q, va_A wc H.size q → A q := by
    rintro q (⟨k, e', h1⟩ | h1)
    · exact hDc.2 k _ h1
    · exact C.2.2.2.2.2.2.2.1 q (Nat.le_trans hS.1 h1)
  have hg : GoodIn ALLW (va_wsS own idx y (Cond.codeWith y ccY nY (some .int) hh :: ALLW)) := fun w h => by
    rcases List.mem_append.mp h with h | h
    · simp only [List.mem_cons, List.not_mem_nil, or_false] at h
      rcases h with rfl | rfl | rfl
      · exact ALLW_self _ hlink
      · exact ALLW_self _ hstat
      · exact ALLW_self _ hini
    · exact gi_cons hcode ALLW_self w h
  have run : va_Run p l e R s m args below meth c H locs cells slots 1 6 (F0 m pc ls st0) st _ (va_A wc H.size) :=
    vx_runSW (As := As) (bytes := ccY) (maxL := nY) (ret := some .int) (nL := nL) ⟨C.1, C.2.1, C.2.2.1, C.2.2.2.1, C.2.2.2.2.1⟩ (hM H.size) (vx_cwSW n C.2.2.2.2.1 hg rfl hc0 hs0 hnm hR) ⟨kx_blind, fun U hU hW => ⟨rfl, by rw [hU], by rw [hU]; exact hPc, va_K.moved hW.alike hK', NWs.moved hW C.2.2.2.2.2.2.2.2, TE_of T hW hU hS (fun q hq => by obtain ⟨k9, e9, h9⟩ := hq; exact hDc.2 k9 _ h9), hDc.weaken (fun _ _ _ _ => trivial)⟩⟩ rfl hn hl.1 hst0.symm (lv_room hroom) hd ⟨hcell, hslot⟩
  intro T9 hT9 X9
  obtain ⟨r, st₀, t, T', L, h0, X', hL, e1, e2, ⟨⟨hv, hPt⟩, hF⟩, go⟩ := run T9 hT9 X9
  cases hv
  obtain ⟨hz, hk⟩ := hF
  rw [h0] at hz hk
  rw [← e1] at hz hPt
  have hk' : ∀ q : Nat, q < H.size → ¬ va_A wc H.size q → T'.heap[q]? = H[q]? := fun q h1 h2 => by rw [e1]; exact hk q h1 h2
  obtain ⟨hP2, hD2⟩ := chunk_put hP hD ha hk' hPt
  have hS2 : va_S A s.heap T'.heap (locs ++ L) := ⟨Nat.le_trans hS.1 hz, fun q h1 h2 => by rw [hk' q (Nat.lt_of_lt_of_le h1 hS.1) (fun z => h2 (hFc q z))]; exact hS.2.1 q h1 h2, fun q hq => by
    rcases List.mem_append.mp hq with h | h
    · exact hS.2.2 q h
    · exact hFc _ (hL q h)⟩
  obtain ⟨t2, a1, b1⟩ := kk T'.heap (locs ++ L) ls hP2 hD2 hS2 hl T' rfl X'
  exact ⟨t2, go t2 a1, b1⟩
end WR
