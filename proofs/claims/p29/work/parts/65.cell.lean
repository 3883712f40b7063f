/-! the law's script: one cell of it, or a number of its own behind its end -/
def sc (xs : Nat → Int32) (z : Int) : Int := (xs z.toNat).toInt
theorem sc_in (xs : Nat → Int32) (z : Int) : inR (sc xs z) := by
  have h1 := Int32.le_toInt (xs z.toNat)
  have h2 := Int32.toInt_lt (xs z.toNat)
  exact ⟨by unfold sc; omega, by unfold sc; omega⟩
def cellv (L : Nat) (xs : Nat → Int32) (k : Int) : Int := if (L : Int) ≤ k then 7919 * (k + 3001) * (k + 683) else sc xs k
section SL
variable {p : Program} {l : Launch} {e : Env} {R : Room} {s : State} {m : MethodId} {args : Array Value} {below : List Frame} {meth : Method} {c : Code} {cc : ByteArray} {nL : Nat} {own : String} {D : va_G} {tys : List (ClassId × FieldType)} {A : Nat → Prop} {Q : State → Prop} {cells slots : Nat} {ws : va_W} {pc : Nat} {lv : List (Nat × Value)} {st : List Value} {ρ : Type} {res : ρ}
theorem j_sld (C : JC p s m args meth c cc nL own D tys A) {b L : Nat} {xs : Nat → Int32} (hX : va_X b L xs s s.heap) (hbl : b < s.heap.size) (hbA : ¬ A b) {z : Int} (hz : 0 ≤ z ∧ z < (L : Int) ∧ L ≤ 2560) (hd : decode cc pc = .ok (.iaload, 1)) (k : J p l e R s m args below meth c D A nL Q cells slots ws (pc + 1) lv (.int (vI (sc xs z)) :: st)) : J p l e R s m args below meth c D A nL Q cells slots ws pc lv (.int (vI z) :: .ref b :: st) := by
  obtain ⟨h1, h2⟩ := vI_in (n := L) ⟨hz.1, hz.2.1⟩ (by omega)
  intro H locs ls hP hD hS hl
  refine va_sld C.1 C.2.1 hX hbl hbA hS h1 hd ?_
  rw [h2, ← vI_of (xs z.toNat)]
  exact k H locs ls hP hD hS hl
theorem j_slen (C : JC p s m args meth c cc nL own D tys A) {b L : Nat} {xs : Nat → Int32} (hX : va_X b L xs s s.heap) (hbl : b < s.heap.size) (hbA : ¬ A b) (hd : decode cc pc = .ok (.arraylength, 1)) (k : J p l e R s m args below meth c D A nL Q cells slots ws (pc + 1) lv (.int (vI (L : Int)) :: st)) : J p l e R s m args below meth c D A nL Q cells slots ws pc lv (.ref b :: st) := by
  intro H locs ls hP hD hS hl
  refine va_slen C.1 C.2.1 hX hbl hbA hS hd ?_
  have e9 : Int32.ofNat L = vI (L : Int) := by
    show _ = Int32.ofInt (L : Int)
    rw [Int32.ofInt_eq_ofNat]
  rw [e9]
  exact k H locs ls hP hD hS hl
end SL
def Kcell (l : Launch) (D : va_G) (bs L : Nat) (xs : Nat → Int32) (k v : Int) : Prop :=
  ∀ sz : Nat, Met l yL_cell (Cond.code yL_cell cL_cell 2 (some .int) :: ALLW) ({ frames := 0, cells := 0, slots := 0, locals := 0 } : Room) (va_Pc [.ref bs, .int (vI k)] (fun U => U.heap.size = sz ∧ va_X bs L xs U U.heap ∧ bs < sz ∧ va_K D vwCl [] U ∧ NWs U)) (fun _ st o t => (o = .returned (some (.int (vI v))) ∧ va_P D vwCl [] t.heap) ∧ va_F (va_A [] sz) st t) 0 0 (va_A [] sz)
theorem A_nil {sz q : Nat} : va_A [] sz q ↔ sz ≤ q := by
  constructor
  · rintro (⟨k, e, h⟩ | h)
    · simp at h
    · exact h
  · exact Or.inr
theorem P_nil {D : va_G} {cl : List vw_C} {H : Heap} : va_P D cl [] H := fun k q h => by simp at h
theorem D_nil {A : Nat → Prop} : va_D A [] := ⟨fun i j p q h => by simp at h, fun k q h => by simp at h⟩
theorem kcell_body {p : Program} {l : Launch} {e : Env} {R : Room} {s : State} {m : MethodId} {args : Array Value} {below : List Frame} {meth : Method} {c : Code} {D : va_G} {A : Nat → Prop} {Q : State → Prop} (C : JC p s m args meth c cL_cell 2 "MarkingHallLaw" D [] A) {bs L : Nat} {xs : Nat → Int32} (hX : va_X bs L xs s s.heap) (hbl : bs < s.heap.size) (hbA : ¬ A bs) (hL : L ≤ 260) {k : Int} (hk : 0 ≤ k ∧ k ≤ 1000)
    (RET : ∀ (pc : Nat) (lv : List (Nat × Value)), decode cL_cell pc = .ok (.ireturn, 1) → J p l e R s m args below meth c D A 2 Q 0 0 [] pc lv [.int (vI (cellv L xs k))]) : J p l e R s m args below meth c D A 2 Q 0 0 [] 0 (lv_args 0 [.ref bs, .int (vI k)]) [] := by
  refine j_lv [0, 1] (lv' := [(0, .ref bs), (1, .int (vI k))]) rfl ?_
  refine j_iload_n C 1 rfl rfl dL_cell_0 ?_
  refine j_aload_n C 0 rfl rfl dL_cell_1 ?_
  refine j_slen C hX hbl hbA dL_cell_2 ?_
  by_cases q : (L : Int) ≤ k
  · have e9 : cellv L xs k = 7919 * (k + 3001) * (k + 683) := by unfold cellv; rw [if_pos q]
    rw [e9] at RET
    refine j_icmp_ge C (T := some ()) (E := none) (res := ()) (by unfold G; rw [if_pos ⟨⟨by omega, by omega⟩, ⟨by omega, by omega⟩⟩, if_pos q]) 12 (by decide) dL_cell_3 (fun _ _ => ?_) (fun _ q => no_h q)
    refine j_sipush C (by decide) dL_cell_12 ?_
    refine j_iload_n C 1 rfl rfl dL_cell_15 ?_
    refine j_sipush C (by decide) dL_cell_16 ?_
    refine j_iadd C dL_cell_19 ?_
    refine j_imul C dL_cell_20 ?_
    refine j_iload_n C 1 rfl rfl dL_cell_21 ?_
    refine j_sipush C (by decide) dL_cell_22 ?_
    refine j_iadd C dL_cell_25 ?_
    refine j_imul C dL_cell_26 ?_
    exact RET _ _ dL_cell_27
  · have e9 : cellv L xs k = sc xs k := by unfold cellv; rw [if_neg q]
    rw [e9] at RET
    refine j_icmp_ge C (T := none) (E := some ()) (res := ()) (by unfold G; rw [if_pos ⟨⟨by omega, by omega⟩, ⟨by omega, by omega⟩⟩, if_neg q]) 12 (by decide) dL_cell_3 (fun _ q => no_h q) (fun _ _ => ?_)
    refine j_aload_n C 0 rfl rfl dL_cell_6 ?_
    refine j_iload_n C 1 rfl rfl dL_cell_7 ?_
    refine j_sld C hX hbl hbA (by omega) dL_cell_8 ?_
    refine j_goto C 27 (by decide) dL_cell_9 ?_
    exact RET _ _ dL_cell_27
theorem kcell (l : Launch) (D : va_G) (bs L : Nat) (xs : Nat → Int32) (hL : L ≤ 260) (k : Int) (hk : 0 ≤ k ∧ k ≤ 1000) : Kcell l D bs L xs k (cellv L xs k) := by
  intro sz
  refine Met.ofW (cc := cL_cell) (maxL := 2) (ret := some .int) (by decide +kernel) rfl ?_
  intro p e s m args below meth c s₁ B hml hv
  obtain ⟨rfl, hsz, hX, hbl, hK, hN⟩ := hv
  have hts := atoms_spec (ws := Cond.code yL_cell cL_cell 2 (some .int) :: ALLW) B.pre
  subst hsz
  have C : JC p s m ([.ref bs, .int (vI k)] : List Value).toArray meth c cL_cell 2 "MarkingHallLaw" D [] (va_A [] s.heap.size) := ⟨B.exec, B.bytes, hml, findClass_of_methodNamed B.named, fun w h => hts w (List.mem_cons_of_mem _ h), B.notSynchronized, hK, fun q h => Or.inr h, hN⟩
  have hbA : ¬ va_A [] s.heap.size bs := fun h => absurd (A_nil.mp h) (by omega)
  have hl0 := lv_entry ([.ref bs, .int (vI k)] : List Value) (n := 2) (Nat.le_of_ble_eq_true rfl)
  rw [lg_entry_eq]
  refine kcell_body C hX hbl hbA hL hk (fun pc lv hd => ?_) s.heap [] _ P_nil D_nil va_S.rf hl0
  intro H locs ls hP hD hS hl
  exact W.iret C.1 C.2.1 B.returns (fun t ht hW => ⟨⟨rfl, P_nil⟩, hS.F ht⟩) hS.2.2 hd C.2.2.2.2.2.1
theorem cell_blind {As : List Value} {sz : Nat} {D : va_G} {bs L : Nat} {xs : Nat → Int32} : FrameBlind (va_Pc As (fun U => U.heap.size = sz ∧ va_X bs L xs U U.heap ∧ bs < sz ∧ va_K D vwCl [] U ∧ NWs U)) := by
  intro a U g mk q
  obtain ⟨q0, q1, qX, qb, qK, qN⟩ := q
  exact ⟨q0, q1, va_X.moved (u := U) (U := U.calling g mk a) (Vm.Alike.refl U.vm) qX, qb, va_K.moved (u := U) (U := U.calling g mk a) (Vm.Alike.refl U.vm) qK, NWs.same (u := U) (U := U.calling g mk a) rfl qN⟩
section CL
variable {p : Program} {l : Launch} {e : Env} {R : Room} {s : State} {m : MethodId} {args : Array Value} {below : List Frame} {meth : Method} {c : Code} {cc : ByteArray} {nL : Nat} {D : va_G} {tys : List (ClassId × FieldType)} {A : Nat → Prop} {Q : State → Prop} {cells slots : Nat} {ws : va_W} {pc idx : Nat} {lv : List (Nat × Value)} {st : List Value}
theorem j_cell (C : JC p s m args meth c cc nL "MarkingHallLaw" D tys A) {bs L : Nat} {xs : Nat → Int32} (hX : va_X bs L xs s s.heap) (hbl : bs < s.heap.size) (hbA : ¬ A bs) (hLs : L ≤ 260) {k : Int} (hk : 0 ≤ k ∧ k ≤ 1000) (hlink : Cond.methodLink "MarkingHallLaw" idx yL_cell ∈ ALLW) (hstat : Cond.static yL_cell ∈ ALLW) (hini : Cond.initialized yL_cell.cls ∈ ALLW) (hcode : Cond.code yL_cell cL_cell 2 (some .int) ∈ ALLW)
    (hf : 1 ≤ R.frames) (hlo : 21 ≤ R.locals) (hroom : (st.map fun v => v.category).sum ≤ 8) (hcell : cells ≤ R.cells) (hslot : slots ≤ R.slots) (hd : decode cc pc = .ok (.invokestatic idx, 3)) (kk : J p l e R s m args below meth c D A nL Q cells slots ws (pc + 3) lv (.int (vI (cellv L xs k)) :: st)) : J p l e R s m args below meth c D A nL Q cells slots ws pc lv (.int (vI k) :: .ref bs :: st) := by
  intro H locs ls hP hD hS hl
  have e0 : ws ++ [] ++ [] = ws := by simp
  have hP' : va_P D vwCl (ws ++ [] ++ []) H := by rw [e0]; exact hP
  have hD' : va_D A (ws ++ [] ++ []) := by rw [e0]; exact hD
  have hbs : bs < H.size := Nat.lt_of_lt_of_le hbl hS.1
  have hXH : va_X bs L xs s H := hX.kept (hS.2.1 bs hbl hbA)
  refine j_back (u := ws) (v := []) (wc := []) (wc' := []) (st := st) (ret := some (.int (vI (cellv L xs k)))) C hP' hD' hS hl rfl rfl ?_ (by rw [e0]; exact kk)
  exact va_runS (As := [.ref bs, .int (vI k)]) (bytes := cL_cell) (maxL := 2) (ret := some .int) (nL := nL) (n := 2) ⟨C.1, C.2.1, C.2.2.1, C.2.2.2.1, C.2.2.2.2.1⟩ (kcell l D bs L xs hLs k hk H.size) ⟨callB_of 2 C.2.2.2.2.1 (gi_cons hcode ALLW_self) rfl rfl rfl (C.2.2.2.2.1 _ hini) (C.2.2.2.2.1 _ hlink) (by decide +kernel) ⟨by show 0 + 1 ≤ R.frames; omega, by show 8 + (2 + 11) + 0 ≤ R.locals; omega⟩, C.2.2.2.2.1 _ hstat⟩ ⟨cell_blind, fun U hU hW => ⟨rfl, by rw [hU], by rw [hU]; exact va_X.moved hW.alike hXH, hbs, va_K.moved hW.alike ⟨C.2.2.2.2.2.2.1.1, fun k q h => by simp at h⟩, NWs.moved hW C.2.2.2.2.2.2.2.2⟩⟩ rfl rfl hl.1 rfl (lv_room hroom) hd ⟨hcell, hslot⟩
end CL
