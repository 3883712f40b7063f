section EX
variable {p : Program} {l : Launch} {e : Env} {R : Room} {s : State} {m : MethodId} {args : Array Value} {below : List Frame} {meth : Method} {c : Code} {cc : ByteArray} {nL : Nat} {own : String} {D : va_G} {tys : List (ClassId × FieldType)} {A : Nat → Prop} {Q : State → Prop} {cells slots : Nat} {ws : va_W} {pc : Nat} {lv : List (Nat × Value)} {st : List Value}
theorem j_max (C : JC p s m args meth c cc nL own D tys A) {x y r : Int} {idx : Nat} (hr : F_J9_max_7cf53 x y = some r) (hw : Cond.methodLink own idx Lib.Math.max.name ∈ ALLW) (hstat : Cond.static Lib.Math.max.name ∈ ALLW) (hini : Cond.initialized "java/lang/Math" ∈ ALLW) (hcode : Cond.code Lib.Math.max.name Lib.Math.max.code 2 (some .int) ∈ ALLW)
    (hframes : 1 ≤ R.frames) (hlocals : (st.map fun v => v.category).sum + 13 ≤ R.locals) (hc : cells ≤ R.cells) (hs : slots ≤ R.slots) (hd : decode cc pc = .ok (.invokestatic idx, 3)) (k : J p l e R s m args below meth c D A nL Q cells slots ws (pc + 3) lv (.int (vI r) :: st)) : J p l e R s m args below meth c D A nL Q cells slots ws pc lv (.int (vI y) :: .int (vI x) :: st) := by
  intro H locs ls hP hD hS hl
  unfold F_J9_max_7cf53 at hr
  obtain ⟨g, hr⟩ := G_of hr
  have e9 : (if vI x < vI y then vI y else vI x) = vI r := by
    by_cases hxy : x < y
    · rw [if_pos hxy] at hr; cases hr; rw [if_pos ((vI_lt g.1 g.2).mpr hxy)]
    · rw [if_neg hxy] at hr; cases hr; rw [if_neg (fun q => hxy ((vI_lt g.1 g.2).mp q))]
  refine va_mmax C.1 C.2.1 (by rw [hl.1]; exact C.2.2.1) C.2.2.2.1 (C.2.2.2.2.1 _ hw) (C.2.2.2.2.1 _ hstat) (C.2.2.2.2.1 _ hini) (C.2.2.2.2.1 _ hcode) hframes hlocals hc hs hd ?_
  rw [e9]
  exact k H locs ls hP hD hS hl
theorem j_min (C : JC p s m args meth c cc nL own D tys A) {x y r : Int} {idx : Nat} (hr : F_J9_min_7cf53 x y = some r) (hw : Cond.methodLink own idx Lib.Math.min.name ∈ ALLW) (hstat : Cond.static Lib.Math.min.name ∈ ALLW) (hini : Cond.initialized "java/lang/Math" ∈ ALLW) (hcode : Cond.code Lib.Math.min.name Lib.Math.min.code 2 (some .int) ∈ ALLW)
    (hframes : 1 ≤ R.frames) (hlocals : (st.map fun v => v.category).sum + 13 ≤ R.locals) (hc : cells ≤ R.cells) (hs : slots ≤ R.slots) (hd : decode cc pc = .ok (.invokestatic idx, 3)) (k : J p l e R s m args below meth c D A nL Q cells slots ws (pc + 3) lv (.int (vI r) :: st)) : J p l e R s m args below meth c D A nL Q cells slots ws pc lv (.int (vI y) :: .int (vI x) :: st) := by
  intro H locs ls hP hD hS hl
  unfold F_J9_min_7cf53 at hr
  obtain ⟨g, hr⟩ := G_of hr
  have e9 : (if vI y < vI x then vI y else vI x) = vI r := by
    by_cases hxy : y < x
    · rw [if_pos hxy] at hr; cases hr; rw [if_pos ((vI_lt g.2 g.1).mpr hxy)]
    · rw [if_neg hxy] at hr; cases hr; rw [if_neg (fun q => hxy ((vI_lt g.2 g.1).mp q))]
  refine va_mmin C.1 C.2.1 (by rw [hl.1]; exact C.2.2.1) C.2.2.2.1 (C.2.2.2.2.1 _ hw) (C.2.2.2.2.1 _ hstat) (C.2.2.2.2.1 _ hini) (C.2.2.2.2.1 _ hcode) hframes hlocals hc hs hd ?_
  rw [e9]
  exact k H locs ls hP hD hS hl
end EX
