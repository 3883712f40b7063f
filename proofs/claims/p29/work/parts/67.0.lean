section WK
variable {p : Program} {l : Launch} {e : Env} {s : State} {m : MethodId} {args : Array Value} {below : List Frame} {meth : Method} {c : Code} {D : va_G} {A : Nat → Prop} {Q : State → Prop}
set_option maxRecDepth 100000 in
set_option maxHeartbeats 4000000 in
theorem k_L_low {ws : va_W} {tys : List (ClassId × FieldType)} (C : JC p s m args meth c cL_low 2 "MarkingHallLaw" D tys A) (x0 : Int) (x1 : Int) (res : Int) (h : F_L_low x0 x1 = some res) (RET : ∀ (pc : Nat) (lv : List (Nat × Value)), decode cL_low pc = .ok (.ireturn, 1) → J p l e ({ frames := 0, cells := 0, slots := 0, locals := 0 } : Room) s m args below meth c D A 2 Q 0 0 ws pc lv [.int (vI res)]) : J p l e ({ frames := 0, cells := 0, slots := 0, locals := 0 } : Room) s m args below meth c D A 2 Q 0 0 ws 0 [(0, .int (vI x0)), (1, .int (vI x1))] [] := by
  unfold F_L_low at h
  refine j_iload_n C 0 rfl rfl dL_low_0 ?_
  refine j_ldc C (n := 2147483647) (by decide) w383 dL_low_1 ?_
  refine j_iand C dL_low_3 ?_
  refine j_iload_n C 1 rfl rfl dL_low_4 ?_
  refine j_irem C h dL_low_5 (fun h => ?_)
  cases h
  exact RET _ _ dL_low_6
theorem c_L_low (l : Launch) (D : va_G) (tys : List (ClassId × FieldType)) (ws : va_W) (x0 : Int) (x1 : Int) (res : Int) (h : F_L_low x0 x1 = some res) : Kt l yL_low cL_low 2 (some .int) ({ frames := 0, cells := 0, slots := 0, locals := 0 } : Room) D tys [.int (vI x0), .int (vI x1)] ws ws (some (.int (vI res))) :=
  kt_i (ty := .int) rfl rfl (by decide +kernel) (Nat.le_of_ble_eq_true rfl) (fun C RET => k_L_low C x0 x1 res h RET)
end WK
section CS
variable {p : Program} {l : Launch} {e : Env} {R : Room} {s : State} {m : MethodId} {args : Array Value} {below : List Frame} {meth : Method} {c : Code} {cc : ByteArray} {nL : Nat} {D : va_G} {tys : List (ClassId × FieldType)} {A : Nat → Prop} {Q : State → Prop} {cells slots : Nat} {ws u wc v : va_W} {pc : Nat} {lv : List (Nat × Value)} {st : List Value}
/-- cells, slots and world by other words -/
theorem j_cs {c0 s0 c1 s1 : Nat} {w0 w1 : va_W} (hc : c0 = c1) (hs : s0 = s1) (hw : w0 = w1) (k : J p l e R s m args below meth c D A nL Q c1 s1 w1 pc lv st) : J p l e R s m args below meth c D A nL Q c0 s0 w0 pc lv st := by
  subst hc hs hw; exact k
end CS
