/-! constructors: new cells come behind the world -/
theorem vI_0 : vI 0 = 0 := by decide
theorem mk_i (N : Nat) : ∀ cA : ClassId, vp_cell cA (N, .inl (iA (fun _ => 0))) = arrV cA N (fun _ => defaultValue .int) := by
  intro cA
  rw [vp_cell_i]
  show arrV cA N (fun j => Value.int (vI 0)) = _
  rw [vI_0]
  rfl
theorem mk_z (N : Nat) : ∀ cA : ClassId, vp_cell cA (N, .inl (iA (fun _ => 0))) = arrV cA N (fun _ => defaultValue .boolean) := by
  intro cA
  rw [vp_cell_i]
  show arrV cA N (fun j => Value.int (vI 0)) = _
  rw [vI_0]
  rfl
theorem mk_l (N : Nat) : ∀ cA : ClassId, vp_cell cA (N, .inr (.inl (fun _ => (0 : Int64)))) = arrV cA N (fun _ => defaultValue .long) := by
  intro cA
  rw [vp_cell_l]
  rfl
theorem JC.more {p : Program} {s : State} {m : MethodId} {args : Array Value} {meth : Method} {c : Code} {cc : ByteArray} {nL : Nat} {own : String} {D : va_G} {tys tys' : List (ClassId × FieldType)} {A : Nat → Prop} (C : JC p s m args meth c cc nL own D tys A) (K : va_K D vwCl tys' s) : JC p s m args meth c cc nL own D tys' A :=
  ⟨C.1, C.2.1, C.2.2.1, C.2.2.2.1, C.2.2.2.2.1, C.2.2.2.2.2.1, K, C.2.2.2.2.2.2.2.1, C.2.2.2.2.2.2.2.2⟩
def Kc (l : Launch) (y : MethodName) (cc : ByteArray) (nL : Nat) (rm : Room) (D : va_G) (As : List Value) (ws : va_W) (mc ms : Nat) (fin : (Nat → Nat) → (Nat → ClassId) → va_W) (ty : (Nat → ClassId) → List (ClassId × FieldType)) : Prop :=
  ∀ sz : Nat, Met l y (Cond.code y cc nL none :: ALLW) rm (va_Pc As (fun U => U.heap.size = sz ∧ va_P D vwCl ws U.heap ∧ va_K D vwCl [] U ∧ NWs U ∧ va_D (fun _ => True) ws)) (fun _ st o t => (o = .returned none ∧ ∃ (q : Nat → Nat) (cA : Nat → ClassId), va_P D vwCl (fin q cA) t.heap ∧ va_K D vwCl (ty cA) t ∧ va_D (va_A ws sz) (fin q cA)) ∧ va_F (va_A ws sz) st t) mc ms (va_A ws sz)
section KC
variable {l : Launch} {y : MethodName} {cc : ByteArray} {nL : Nat} {rm : Room} {D : va_G} {As : List Value} {ws : va_W} {mc ms : Nat} {fin : (Nat → Nat) → (Nat → ClassId) → va_W} {ty : (Nat → ClassId) → List (ClassId × FieldType)}
theorem kc_of (hy : plainName y.cls = true) (hy1 : y.name = "<init>") (hlen : (lg_sl As).length ≤ nL)
    (body : ∀ {p : Program} {e : Env} {s : State} {m : MethodId} {args : Array Value} {below : List Frame} {meth : Method} {c : Code} {A : Nat → Prop} {Q : State → Prop}, JC p s m args meth c cc nL y.cls D [] A → meth.name = "<init>" →
      (∀ (q : Nat → Nat) (cA : Nat → ClassId) (pc : Nat) (lv : List (Nat × Value)), va_K D vwCl (ty cA) s → decode cc pc = .ok (.return_, 1) → J p l e rm s m args below meth c D A nL Q mc ms (fin q cA) pc lv []) → J p l e rm s m args below meth c D A nL Q 0 0 ws 0 (lv_args 0 As) []) :
    Kc l y cc nL rm D As ws mc ms fin ty := by
  intro sz
  refine Met.ofW (cc := cc) (maxL := nL) (ret := none) hy rfl ?_
  intro p e s m args below meth c s₁ B hml hv
  obtain ⟨rfl, hsz, hP, hK, hN, hD0⟩ := hv
  have hts := atoms_spec (ws := Cond.code y cc nL none :: ALLW) B.pre
  subst hsz
  have hD := hD0.self (sz := s.heap.size)
  have C : JC p s m As.toArray meth c cc nL y.cls D [] (va_A ws s.heap.size) := ⟨B.exec, B.bytes, hml, findClass_of_methodNamed B.named, fun w h => hts w (List.mem_cons_of_mem _ h), B.notSynchronized, hK, fun q h => Or.inr h, hN⟩
  have hin : meth.name = "<init>" := (name_of_methodNamed B.named B.method).1.trans hy1
  have hl := lv_entry As (n := nL) hlen
  rw [lg_entry_eq]
  refine body C hin (fun q cA pc lv hKf hd => ?_) s.heap [] _ hP hD va_S.rf hl
  intro H locs ls hP hD hS hl
  exact W.vret C.1 C.2.1 B.returns (fun t ht hW => ⟨⟨rfl, q, cA, by rw [ht]; exact hP, va_K.moved hW.alike hKf, hD⟩, hS.F ht⟩) hS.2.2 hd C.2.2.2.2.2.1
end KC
theorem chunk_app {D : va_G} {cl : List vw_C} {A : Nat → Prop} {u wc w1 : va_W} {H H1 : Heap} (hP : va_P D cl (u ++ wc) H) (hD : va_D A (u ++ wc)) (hk : ∀ q : Nat, q < H.size → ¬ va_A wc H.size q → H1[q]? = H[q]?) (hF : ∀ q, va_A wc H.size q → A q)
    (hP1 : va_P D cl w1 H1) (hD1 : va_D (va_A wc H.size) w1) : va_P D cl (u ++ w1) H1 ∧ va_D A (u ++ w1) := by
  have ku : ∀ (k : Nat) (q : Nat × va_E), u[k]? = some q → (u ++ wc)[k]? = some q := fun k q hk => by
    rw [List.getElem?_append_left (List.getElem?_eq_some_iff.mp hk).1]; exact hk
  have kc : ∀ (k : Nat) (q : Nat × va_E), wc[k]? = some q → (u ++ wc)[u.length + k]? = some q := fun k q hk => by
    rw [List.getElem?_append_right (by omega), Nat.add_sub_cancel_left]; exact hk
  have out : ∀ (k : Nat) (q : Nat × va_E), u[k]? = some q → q.1 < H.size ∧ ¬ va_A wc H.size q.1 := fun k q hk => by
    have hlt := (hP k q (ku k q hk)).lt
    refine ⟨hlt, ?_⟩
    rintro (⟨k', e', h1⟩ | h1)
    · have := hD.1 k (u.length + k') q (q.1, e') (ku k q hk) (kc k' _ h1) rfl
      have hlt2 := (List.getElem?_eq_some_iff.mp hk).1
      omega
    · omega
  refine ⟨va_P.app (fun k q hkq => (hP k q (ku k q hkq)).kept (hk q.1 (out k q hkq).1 (out k q hkq).2)) hP1, va_D.app ⟨fun i j p q hi hj => hD.1 i j p q (ku i p hi) (ku j q hj), fun k q hkq => hD.2 k q (ku k q hkq)⟩ (hD1.weaken (fun _ _ _ h => hF _ h)) ?_⟩
  intro i j p q hi hj e9
  exact (out i p hi).2 (by rw [e9]; exact hD1.2 j q hj)
section NW2
variable {p : Program} {l : Launch} {e : Env} {R : Room} {s : State} {m : MethodId} {args : Array Value} {below : List Frame} {meth : Method} {c : Code} {cc : ByteArray} {nL : Nat} {own : String} {D : va_G} {tys : List (ClassId × FieldType)} {A : Nat → Prop} {Q : State → Prop} {cells slots : Nat} {ws u wc : va_W} {pc idx n : Nat} {lv : List (Nat × Value)} {st st0 : List Value}
variable {y : MethodName} {ccY : ByteArray} {nY mc ms : Nat} {rmY : Room} {As : List Value} {b : Nat} {fin : (Nat → Nat) → (Nat → ClassId) → va_W} {ty : (Nat → ClassId) → List (ClassId × FieldType)}
theorem j_objInit (C : JC p s m args meth c cc nL own D tys A) {a : Nat} (hlink : Cond.methodLink own idx objectInit ∈ ALLW) (hinst : Cond.instanceMethod objectInit ∈ ALLW) (hcode : Cond.code objectInit ⟨#[0xb1]⟩ 1 none ∈ ALLW) (hframes : 1 ≤ R.frames) (hlocals : (st.map fun v => v.category).sum + 12 ≤ R.locals) (hd : decode cc pc = .ok (.invokespecial idx, 3)) (k : J p l e R s m args below meth c D A nL Q cells slots ws (pc + 3) lv st) : J p l e R s m args below meth c D A nL Q cells slots ws pc lv (.ref a :: st) := by
  intro H locs ls hP hD hS hl
  refine W.objInit C.1 C.2.1 C.2.2.2.1 (C.2.2.2.2.1 _ hlink) (C.2.2.2.2.1 _ hinst) (C.2.2.2.2.1 _ hcode) rfl (hl.1.trans C.2.2.1.symm) rfl hd hframes ?_ ?_
  · show 2 * 0 + _ + 12 ≤ R.locals
    omega
  · exact k H locs ls hP hD hS hl
theorem j_newa (C : JC p s m args meth c cc nL own D tys A) {a : Int} {N : Nat} {a0 : vp_A} {atype : ArrayType} {ft : FieldType} (harr : Cond.arrayClass ft ∈ ALLW) (hty : newarray.typeOf atype = ft) (ha : ∀ cA : ClassId, vp_cell cA a0 = arrV cA N (fun _ => defaultValue ft)) (hn : ¬ vI a < 0) (hN : (vI a).toNatClampNeg = N) (hbytes : N * componentBytes ft ≤ 536870912) (hcells : cells + 1 ≤ R.cells) (hslots : slots + N ≤ R.slots) (hd : decode cc pc = .ok (.newarray atype, 2))
    (k : ∀ (q : Nat) (cA : ClassId), va_K D vwCl (tys ++ [(cA, ft)]) s → J p l e R s m args below meth c D A nL Q (cells + 1) (slots + N) (ws ++ [(q, .inl (cA, a0))]) (pc + 2) lv (.ref q :: st)) : J p l e R s m args below meth c D A nL Q cells slots ws pc lv (.int (vI a) :: st) := by
  intro H locs ls hP hD hS hl
  subst hty
  exact va_newa C.1 C.2.1 (C.2.2.2.2.1 _ harr) rfl C.2.2.2.2.2.2.1 hP hD hS C.2.2.2.2.2.2.2.1 ha hn hN hbytes hcells hslots hd (fun q cA H1 hK hP hD hS => k q cA hK H1 locs ls hP hD hS hl)
theorem j_new (C : JC p s m args meth c cc nL own D tys A) {Cn : String} {T : u_T} {N ci : Nat} {fs : List Value} (hin : ∀ w ∈ u_ws Cn T N, w ∈ ALLW) (tyf : Nat → FieldType) (hty : ∀ k, k < N → parseFieldDescriptor (T k).2.2.1 = some (tyf k)) (hcl : Cond.classLink own idx Cn ∈ ALLW) (hinst : Cond.instantiable Cn N ∈ ALLW) (hini : Cond.initialized Cn ∈ ALLW) (hc : vwCl[ci]? = some (Cn, T, N)) (hfs : ∀ j, j < N → defaultValue (tyf j) = vp_V fs j) (hcells : cells + 1 ≤ R.cells) (hslots : slots + N ≤ R.slots) (hd : decode cc pc = .ok (.new idx, 3))
    (k : ∀ q : Nat, J p l e R s m args below meth c D A nL Q (cells + 1) (slots + N) (ws ++ [(q, .inr (ci, fs))]) (pc + 3) lv (.ref q :: st)) : J p l e R s m args below meth c D A nL Q cells slots ws pc lv st := by
  intro H locs ls hP hD hS hl
  exact va_new (ci := ci) (fs := fs) (C := Cn) (T := T) (N := N) C.1 C.2.1 C.2.2.2.2.1 hin tyf hty C.2.2.2.1 (C.2.2.2.2.1 _ hcl) (C.2.2.2.2.1 _ hinst) (C.2.2.2.2.1 _ hini) C.2.2.2.2.2.2.1 hP hD hS C.2.2.2.2.2.2.2.1 hc hfs hcells hslots hd (fun q H1 hP hD hS => k q H1 locs ls hP hD hS hl)
theorem jc_back {H : Heap} {locs : List Loc} {ls : Array Slot} (C : JC p s m args meth c cc nL own D tys A) (hP : va_P D vwCl (u ++ wc) H) (hD : va_D A (u ++ wc)) (hS : va_S A s.heap H locs) (hl : lv_has ls nL lv)
    (run : va_Run p l e R s m args below meth c H locs cells slots mc ms (F0 m pc ls st0) st (fun st o t => (o = .returned none ∧ ∃ (q : Nat → Nat) (cA : Nat → ClassId), va_P D vwCl (fin q cA) t.heap ∧ va_K D vwCl (ty cA) t ∧ va_D (va_A wc H.size) (fin q cA)) ∧ va_F (va_A wc H.size) st t) (va_A wc H.size))
    (k : ∀ (q : Nat → Nat) (cA : Nat → ClassId), va_K D vwCl (tys ++ ty cA) s → J p l e R s m args below meth c D A nL Q (cells + mc) (slots + ms) (u ++ fin q cA) (pc + 3) lv st) : W p l e R s m args below meth c H locs cells slots Q (F0 m pc ls st0) := by
  have hFc : ∀ q, va_A wc H.size q → A q := by
    rintro q (⟨k, e', h1⟩ | h1)
    · exact hD.2 (u.length + k) (q, e') (by rw [List.getElem?_append_right (by omega), Nat.add_sub_cancel_left]; exact h1)
    · exact C.2.2.2.2.2.2.2.1 q (Nat.le_trans hS.1 h1)
  intro T hT X
  obtain ⟨r, st₀, t, T', L, h0, X', hL, e1, e2, ⟨⟨hv, q, cA, hPt, hKt, hDt⟩, hF⟩, go⟩ := run T hT X
  cases hv
  obtain ⟨hz, hk⟩ := hF
  rw [h0] at hz hk
  rw [← e1] at hz hPt
  have hk' : ∀ q : Nat, q < H.size → ¬ va_A wc H.size q → T'.heap[q]? = H[q]? := fun q h1 h2 => by rw [e1]; exact hk q h1 h2
  obtain ⟨hP2, hD2⟩ := chunk_app hP hD hk' hFc hPt hDt
  have hS2 : va_S A s.heap T'.heap (locs ++ L) := ⟨Nat.le_trans hS.1 hz, fun q h1 h2 => by rw [hk' q (Nat.lt_of_lt_of_le h1 hS.1) (fun z => h2 (hFc q z))]; exact hS.2.1 q h1 h2, fun q hq => by
    rcases List.mem_append.mp hq with h | h
    · exact hS.2.2 q h
    · exact hFc _ (hL q h)⟩
  have hal : s.vm.Alike t.vm := by rw [← e2]; exact X'.warmed.alike
  obtain ⟨t2, a1, b1⟩ := k q cA (C.2.2.2.2.2.2.1.app (va_K.moved hal.symm hKt)) T'.heap (locs ++ L) ls hP2 hD2 hS2 hl T' rfl X'
  exact ⟨t2, go t2 a1, b1⟩
theorem kc_pre {H : Heap} {locs : List Loc} (C : JC p s m args meth c cc nL own D tys A) (hP : va_P D vwCl (u ++ wc) H) (hD : va_D A (u ++ wc)) : va_P D vwCl wc H ∧ va_D A wc := by
  have h1 : va_P D vwCl (u ++ wc ++ []) H := by rw [List.append_nil]; exact hP
  have h2 : va_D A (u ++ wc ++ []) := by rw [List.append_nil]; exact hD
  exact chunk_sub h1 h2
theorem j_callC (C : JC p s m args meth c cc nL own D tys A) (hM : Kc l y ccY nY rmY D (.ref b :: As) wc mc ms fin ty) (hlink : Cond.methodLink own idx y ∈ ALLW) (hinst : Cond.instanceMethod y ∈ ALLW) (hini : Cond.initialized y.cls ∈ ALLW) (hcode : Cond.code y ccY nY none ∈ ALLW) (hy1 : y.name = "<init>")
    (hnm : y.cls ≠ "java/lang/invoke/MethodHandle" ∧ y.cls ≠ "java/lang/invoke/VarHandle" ∧ (parseMethodDescriptor y.desc).map (fun d => d.parameters.length) = some n) (hR : rmY.frames + 1 ≤ R.frames ∧ 8 + (nY + 11) + rmY.locals ≤ R.locals) (hc0 : rmY.cells = mc) (hs0 : rmY.slots = ms)
    (hn : As.length = n) (hw : u ++ wc = ws) (hroom : (st.map fun v => v.category).sum ≤ 8) (hst0 : As.reverse ++ .ref b :: st = st0) (hcell : cells + mc ≤ R.cells) (hslot : slots + ms ≤ R.slots) (hd : decode cc pc = .ok (.invokespecial idx, 3))
    (k : ∀ (q : Nat → Nat) (cA : Nat → ClassId), va_K D vwCl (tys ++ ty cA) s → J p l e R s m args below meth c D A nL Q (cells + mc) (slots + ms) (u ++ fin q cA) (pc + 3) lv st) : J p l e R s m args below meth c D A nL Q cells slots ws pc lv st0 := by
  subst hw
  intro H locs ls hP hD hS hl
  obtain ⟨hPc, hDc⟩ := kc_pre (locs := locs) C hP hD
  refine jc_back (tys := tys) (st := st) C hP hD hS hl ?_ k
  exact va_runI (As := As) (b := b) (bytes := ccY) (maxL := nY) (nL := nL) ⟨C.1, C.2.1, C.2.2.1, C.2.2.2.1, C.2.2.2.2.1⟩ (hM H.size) (cwI n C.2.2.2.2.1 (gi_cons hcode ALLW_self) rfl hc0 hs0 (C.2.2.2.2.1 _ hini) (C.2.2.2.2.1 _ hlink) (C.2.2.2.2.1 _ hinst) hy1 hnm hR) ⟨kt_blind, fun U hU hW => ⟨rfl, by rw [hU], by rw [hU]; exact hPc, va_K.moved hW.alike (C.2.2.2.2.2.2.1.sub [] rfl), NWs.moved hW C.2.2.2.2.2.2.2.2, hDc.weaken (fun _ _ _ _ => trivial)⟩⟩ rfl hn hl.1 hst0.symm (lv_room hroom) hd ⟨hcell, hslot⟩
theorem j_callCN {host : String} (C : JC p s m args meth c cc nL own D tys A) (hM : Kc l y ccY nY rmY D (.ref b :: As) wc mc ms fin ty) (hlink : Cond.methodLinkNest own idx y host ∈ NW) (hinst : Cond.instanceMethod y ∈ ALLW) (hini : Cond.initialized y.cls ∈ ALLW) (hcode : Cond.code y ccY nY none ∈ ALLW) (hy1 : y.name = "<init>")
    (hnm : y.cls ≠ "java/lang/invoke/MethodHandle" ∧ y.cls ≠ "java/lang/invoke/VarHandle" ∧ (parseMethodDescriptor y.desc).map (fun d => d.parameters.length) = some n) (hR : rmY.frames + 1 ≤ R.frames ∧ 8 + (nY + 11) + rmY.locals ≤ R.locals) (hc0 : rmY.cells = mc) (hs0 : rmY.slots = ms)
    (hn : As.length = n) (hw : u ++ wc = ws) (hroom : (st.map fun v => v.category).sum ≤ 8) (hst0 : As.reverse ++ .ref b :: st = st0) (hcell : cells + mc ≤ R.cells) (hslot : slots + ms ≤ R.slots) (hd : decode cc pc = .ok (.invokespecial idx, 3))
    (k : ∀ (q : Nat → Nat) (cA : Nat → ClassId), va_K D vwCl (tys ++ ty cA) s → J p l e R s m args below meth c D A nL Q (cells + mc) (slots + ms) (u ++ fin q cA) (pc + 3) lv st) : J p l e R s m args below meth c D A nL Q cells slots ws pc lv st0 := by
  subst hw
  intro H locs ls hP hD hS hl
  obtain ⟨hPc, hDc⟩ := kc_pre (locs := locs) C hP hD
  refine jc_back (tys := tys) (st := st) C hP hD hS hl ?_ k
  exact va_runIN (As := As) (b := b) (bytes := ccY) (maxL := nY) (nL := nL) ⟨C.1, C.2.1, C.2.2.1, C.2.2.2.1, C.2.2.2.2.1⟩ (hM H.size) ⟨va_cnB n C.2.2.2.2.1 (gi_cons hcode ALLW_self) rfl hc0 hs0 (C.2.2.2.2.2.2.2.2 _ hlink) (C.2.2.2.2.1 _ hini) hnm hR, hy1, C.2.2.2.2.1 _ hinst⟩ ⟨kt_blind, fun U hU hW => ⟨rfl, by rw [hU], by rw [hU]; exact hPc, va_K.moved hW.alike (C.2.2.2.2.2.2.1.sub [] rfl), NWs.moved hW C.2.2.2.2.2.2.2.2, hDc.weaken (fun _ _ _ _ => trivial)⟩⟩ rfl hn hl.1 hst0.symm (lv_room hroom) hd ⟨hcell, hslot⟩
end NW2
