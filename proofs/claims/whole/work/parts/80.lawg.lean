/-! the law: script, cases -/
def sc (xs : Nat → Int32) (z : Int) : Int := (xs z.toNat).toInt
theorem sc_in (xs : Nat → Int32) (z : Int) : inR (sc xs z) := by
  have h1 := Int32.le_toInt (xs z.toNat)
  have h2 := Int32.toInt_lt (xs z.toNat)
  exact ⟨by unfold sc; omega, by unfold sc; omega⟩
theorem K_mid {D : va_G} {cl : List vw_C} {t1 t2 t3 : List (ClassId × FieldType)} {U : State} (h : va_K D cl (t1 ++ t2 ++ t3) U) : va_K D cl t2 U :=
  ⟨h.1, fun k q hk => h.2 (t1.length + k) q (by
    have hlt := (List.getElem?_eq_some_iff.mp hk).1
    rw [List.append_assoc, List.getElem?_append_right (by omega), Nat.add_sub_cancel_left, List.getElem?_append_left hlt]; exact hk)⟩
theorem K_last {D : va_G} {cl : List vw_C} {t1 t2 : List (ClassId × FieldType)} {U : State} (h : va_K D cl (t1 ++ t2) U) : va_K D cl t2 U :=
  ⟨h.1, fun k q hk => h.2 (t1.length + k) q (by rw [List.getElem?_append_right (by omega), Nat.add_sub_cancel_left]; exact hk)⟩
section SL
variable {p : Program} {l : Launch} {e : Env} {R : Room} {s : State} {m : MethodId} {args : Array Value} {below : List Frame} {meth : Method} {c : Code} {cc : ByteArray} {nL : Nat} {own : String} {D : va_G} {tys : List (ClassId × FieldType)} {A : Nat → Prop} {Q : State → Prop} {cells slots : Nat} {ws : va_W} {pc : Nat} {lv : List (Nat × Value)} {st : List Value} {ρ : Type} {res : ρ}
theorem j_sld (C : JC p s m args meth c cc nL own D tys A) {b L : Nat} {xs : Nat → Int32} (hX : va_X b L xs s s.heap) (hbl : b < s.heap.size) (hbA : ¬ A b) {z : Int} (hz : 0 ≤ z ∧ z < (L : Int) ∧ L ≤ 2560) (hd : decode cc pc = .ok (.iaload, 1)) (k : J p l e R s m args below meth c D A nL Q cells slots ws (pc + 1) lv (.int (vI (sc xs z)) :: st)) : J p l e R s m args below meth c D A nL Q cells slots ws pc lv (.int (vI z) :: .ref b :: st) := by
  obtain ⟨h1, h2⟩ := vI_in (n := L) ⟨hz.1, hz.2.1⟩ (by omega)
  intro H locs ls hP hD hS hl
  refine va_sld C.1 C.2.1 hX hbl hbA hS h1 hd ?_
  rw [h2, ← vI_of (xs z.toNat)]
  exact k H locs ls hP hD hS hl
theorem j_slen (C : JC p s m args meth c cc nL own D tys A) {b L : Nat} {xs : Nat → Int32} (hX : va_X b L xs s s.heap) (hbl : b < s.heap.size) (hbA : ¬ A b) (hd : decode cc pc = .ok (.arraylength, 1)) (k : J p l e R s m args below meth c D A nL Q cells slots ws (pc + 1) lv (.int (vI (L : Int)) :: st)) : J p l e R s m args below meth c D A nL Q cells slots ws pc lv (.ref b :: st) := by
  intro H locs ls hP hD hS hl
  refine va_slen C.1 C.2.1 hX hbl hbA hS hd ?_
  have e9 : Int32.ofNat L = vI (L : Int) := by
    show _ = Int32.ofInt (L : Int)
    rw [Int32.ofInt_eq_ofNat]
  rw [e9]
  exact k H locs ls hP hD hS hl
end SL
