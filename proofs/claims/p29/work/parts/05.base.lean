/-! The common ground: words, numbers, the judgement J (a W with its world, locals and stack), its rows. -/
def ALLW : List Cond := lw_tbl.filter goodWord
theorem kA {w : Cond} (h : w ∈ tables_1) (g : goodWord w = true) : w ∈ ALLW := List.mem_filter.mpr ⟨List.mem_append_right _ h, g⟩
theorem kS {w : Cond} (h : w ∈ k2_sels lw_privs) (g : goodWord w = true) : w ∈ ALLW := List.mem_filter.mpr ⟨List.mem_append_left _ h, g⟩
theorem ALLW_law : GoodIn lw_tbl ALLW := fun _ h => ⟨(List.mem_filter.mp h).1, good_of_word (List.mem_filter.mp h).2⟩
theorem ALLW_self : GoodIn ALLW ALLW := fun _ h => ⟨h, good_of_word (List.mem_filter.mp h).2⟩
theorem gi_cons {w : Cond} {ws : List Cond} (h : w ∈ ALLW) (g : GoodIn ALLW ws) : GoodIn ALLW (w :: ws) := fun x hx => by
  rcases List.mem_cons.mp hx with e | e
  · rw [e]; exact ALLW_self w h
  · exact g x e
def NW : List Cond := [Cond.methodLinkNest "MarkingHall" (9 : Nat) ({ cls := "MarkingHall$Net", name := "<init>", desc := "()V" } : Jvm.MethodName) "MarkingHall",
  Cond.fieldLinkNest "MarkingHall" (57 : Nat) "MarkingHall$Net" "places" "I" "MarkingHall",
  Cond.fieldLinkNest "MarkingHall$Sets" (54 : Nat) "MarkingHall$Net" "places" "I" "MarkingHall",
  Cond.fieldLinkNest "MarkingHall$Sets" (35 : Nat) "MarkingHall$Net" "firings" "I" "MarkingHall",
  Cond.fieldLinkNest "MarkingHall" (72 : Nat) "MarkingHall$Net" "firings" "I" "MarkingHall",
  Cond.fieldLinkNest "MarkingHall$Graph" (83 : Nat) "MarkingHall$Net" "firings" "I" "MarkingHall",
  Cond.fieldLinkNest "MarkingHall$Log" (78 : Nat) "MarkingHall$Net" "firings" "I" "MarkingHall",
  Cond.fieldLinkNest "MarkingHall$Graph" (71 : Nat) "MarkingHall$Net" "now" "J" "MarkingHall",
  Cond.fieldLinkNest "MarkingHall$Log" (33 : Nat) "MarkingHall$Net" "now" "J" "MarkingHall",
  Cond.fieldLinkNest "MarkingHall" (98 : Nat) "MarkingHall$Net" "now" "J" "MarkingHall",
  Cond.fieldLinkNest "MarkingHall$Sets" (32 : Nat) "MarkingHall$Net" "shape" "I" "MarkingHall",
  Cond.fieldLinkNest "MarkingHall" (228 : Nat) "MarkingHall$Net" "shape" "I" "MarkingHall",
  Cond.fieldLinkNest "MarkingHall$Graph" (49 : Nat) "MarkingHall$Net" "state" "I" "MarkingHall",
  Cond.methodLinkNest "MarkingHall" (18 : Nat) ({ cls := "MarkingHall$Graph", name := "<init>", desc := "(LMarkingHall$Net;)V" } : Jvm.MethodName) "MarkingHall",
  Cond.fieldLinkNest "MarkingHall$Log" (47 : Nat) "MarkingHall$Graph" "count" "I" "MarkingHall",
  Cond.fieldLinkNest "MarkingHall" (124 : Nat) "MarkingHall$Graph" "count" "I" "MarkingHall",
  Cond.fieldLinkNest "MarkingHall" (127 : Nat) "MarkingHall$Graph" "pairs" "I" "MarkingHall",
  Cond.fieldLinkNest "MarkingHall" (130 : Nat) "MarkingHall$Graph" "ends" "I" "MarkingHall",
  Cond.fieldLinkNest "MarkingHall" (120 : Nat) "MarkingHall$Graph" "tooGreat" "Z" "MarkingHall",
  Cond.methodLinkNest "MarkingHall" (27 : Nat) ({ cls := "MarkingHall$Balances", name := "<init>", desc := "(II)V" } : Jvm.MethodName) "MarkingHall",
  Cond.fieldLinkNest "MarkingHall" (163 : Nat) "MarkingHall$Balances" "count" "I" "MarkingHall",
  Cond.fieldLinkNest "MarkingHall" (225 : Nat) "MarkingHall$Balances" "shape" "I" "MarkingHall",
  Cond.methodLinkNest "MarkingHall" (39 : Nat) ({ cls := "MarkingHall$Sets", name := "<init>", desc := "(LMarkingHall$Net;)V" } : Jvm.MethodName) "MarkingHall",
  Cond.fieldLinkNest "MarkingHall" (187 : Nat) "MarkingHall$Sets" "count" "I" "MarkingHall",
  Cond.methodLinkNest "MarkingHall" (46 : Nat) ({ cls := "MarkingHall$Log", name := "<init>", desc := "(LMarkingHall$Net;LMarkingHall$Graph;)V" } : Jvm.MethodName) "MarkingHall",
  Cond.fieldLinkNest "MarkingHall" (202 : Nat) "MarkingHall$Log" "length" "I" "MarkingHall",
  Cond.castable "java/lang/IllegalArgumentException" "java/lang/IllegalArgumentException",
  Cond.declares ({ cls := "java/lang/RuntimeException", name := "<init>", desc := "()V" } : Jvm.MethodName),
  Cond.declares ({ cls := "java/lang/RuntimeException", name := "<init>", desc := "(Ljava/lang/String;)V" } : Jvm.MethodName),
  Cond.declares ({ cls := "java/lang/Exception", name := "<init>", desc := "()V" } : Jvm.MethodName),
  Cond.declares ({ cls := "java/lang/Exception", name := "<init>", desc := "(Ljava/lang/String;)V" } : Jvm.MethodName),
  Cond.declares ({ cls := "java/lang/Throwable", name := "<init>", desc := "()V" } : Jvm.MethodName),
  Cond.declares ({ cls := "java/lang/Throwable", name := "<init>", desc := "(Ljava/lang/String;)V" } : Jvm.MethodName),
  Cond.castable "java/lang/IllegalStateException" "java/lang/IllegalStateException",
  Cond.methodLinkNest "MarkingHall" (68 : Nat) ({ cls := "MarkingHall$Net", name := "addPlace", desc := "(I)I" } : Jvm.MethodName) "MarkingHall",
  Cond.methodLinkNest "MarkingHall" (77 : Nat) ({ cls := "MarkingHall$Net", name := "addFiring", desc := "()I" } : Jvm.MethodName) "MarkingHall",
  Cond.castable "java/lang/IndexOutOfBoundsException" "java/lang/IndexOutOfBoundsException",
  Cond.methodLinkNest "MarkingHall" (94 : Nat) ({ cls := "MarkingHall$Net", name := "setWeight", desc := "(IIII)I" } : Jvm.MethodName) "MarkingHall",
  Cond.methodLinkNest "MarkingHall" (102 : Nat) ({ cls := "MarkingHall$Net", name := "tokensIn", desc := "(JI)I" } : Jvm.MethodName) "MarkingHall",
  Cond.methodLinkNest "MarkingHall" (106 : Nat) ({ cls := "MarkingHall$Net", name := "allows", desc := "(JI)Z" } : Jvm.MethodName) "MarkingHall",
  Cond.methodLinkNest "MarkingHall" (112 : Nat) ({ cls := "MarkingHall$Net", name := "moveBy", desc := "(I)I" } : Jvm.MethodName) "MarkingHall",
  Cond.methodLinkNest "MarkingHall" (117 : Nat) ({ cls := "MarkingHall$Graph", name := "refresh", desc := "()V" } : Jvm.MethodName) "MarkingHall",
  Cond.methodLinkNest "MarkingHall$Graph" (86 : Nat) ({ cls := "MarkingHall$Net", name := "allows", desc := "(JI)Z" } : Jvm.MethodName) "MarkingHall",
  Cond.methodLinkNest "MarkingHall$Graph" (90 : Nat) ({ cls := "MarkingHall$Net", name := "behind", desc := "(JI)J" } : Jvm.MethodName) "MarkingHall",
  Cond.methodLinkNest "MarkingHall" (133 : Nat) ({ cls := "MarkingHall$Graph", name := "isHome", desc := "()Z" } : Jvm.MethodName) "MarkingHall",
  Cond.methodLinkNest "MarkingHall" (139 : Nat) ({ cls := "MarkingHall$Graph", name := "tokensAt", desc := "(II)I" } : Jvm.MethodName) "MarkingHall",
  Cond.methodLinkNest "MarkingHall$Graph" (108 : Nat) ({ cls := "MarkingHall$Net", name := "tokensIn", desc := "(JI)I" } : Jvm.MethodName) "MarkingHall",
  Cond.methodLinkNest "MarkingHall" (143 : Nat) ({ cls := "MarkingHall$Graph", name := "mostAt", desc := "(I)I" } : Jvm.MethodName) "MarkingHall",
  Cond.methodLinkNest "MarkingHall" (146 : Nat) ({ cls := "MarkingHall$Graph", name := "levelOf", desc := "(I)I" } : Jvm.MethodName) "MarkingHall",
  Cond.methodLinkNest "MarkingHall" (149 : Nat) ({ cls := "MarkingHall$Graph", name := "firstWith", desc := "(II)I" } : Jvm.MethodName) "MarkingHall",
  Cond.methodLinkNest "MarkingHall" (152 : Nat) ({ cls := "MarkingHall$Graph", name := "depthOf", desc := "(I)I" } : Jvm.MethodName) "MarkingHall",
  Cond.methodLinkNest "MarkingHall" (157 : Nat) ({ cls := "MarkingHall$Graph", name := "firingTowards", desc := "(II)I" } : Jvm.MethodName) "MarkingHall",
  Cond.methodLinkNest "MarkingHall" (229 : Nat) ({ cls := "MarkingHall$Balances", name := "begin", desc := "(I)V" } : Jvm.MethodName) "MarkingHall",
  Cond.methodLinkNest "MarkingHall" (232 : Nat) ({ cls := "MarkingHall$Net", name := "isEmptied", desc := "(I)Z" } : Jvm.MethodName) "MarkingHall",
  Cond.methodLinkNest "MarkingHall" (235 : Nat) ({ cls := "MarkingHall$Net", name := "gainsOfPlace", desc := "(I)J" } : Jvm.MethodName) "MarkingHall",
  Cond.methodLinkNest "MarkingHall" (239 : Nat) ({ cls := "MarkingHall$Balances", name := nmAd, desc := "(IJ)V" } : Jvm.MethodName) "MarkingHall",
  Cond.methodLinkNest "MarkingHall" (243 : Nat) ({ cls := "MarkingHall$Balances", name := "find", desc := "()V" } : Jvm.MethodName) "MarkingHall",
  Cond.methodLinkNest "MarkingHall" (169 : Nat) ({ cls := "MarkingHall$Balances", name := "numberOf", desc := "(II)I" } : Jvm.MethodName) "MarkingHall",
  Cond.methodLinkNest "MarkingHall" (246 : Nat) ({ cls := "MarkingHall$Net", name := "placesWith", desc := "(II)I" } : Jvm.MethodName) "MarkingHall",
  Cond.methodLinkNest "MarkingHall" (249 : Nat) ({ cls := "MarkingHall$Net", name := "gainsOfFiring", desc := "(I)J" } : Jvm.MethodName) "MarkingHall",
  Cond.methodLinkNest "MarkingHall" (261 : Nat) ({ cls := "MarkingHall$Graph", name := "markingAt", desc := "(I)J" } : Jvm.MethodName) "MarkingHall",
  Cond.methodLinkNest "MarkingHall" (186 : Nat) ({ cls := "MarkingHall$Sets", name := "refresh", desc := "()V" } : Jvm.MethodName) "MarkingHall",
  Cond.methodLinkNest "MarkingHall$Sets" (45 : Nat) ({ cls := "MarkingHall$Net", name := "placesWith", desc := "(II)I" } : Jvm.MethodName) "MarkingHall",
  Cond.methodLinkNest "MarkingHall" (190 : Nat) ({ cls := "MarkingHall$Sets", name := "leastSiphon", desc := "(I)I" } : Jvm.MethodName) "MarkingHall",
  Cond.methodLinkNest "MarkingHall" (195 : Nat) ({ cls := "MarkingHall$Sets", name := "greatestTrap", desc := "(I)I" } : Jvm.MethodName) "MarkingHall",
  Cond.methodLinkNest "MarkingHall" (198 : Nat) ({ cls := "MarkingHall$Net", name := "hasTokenIn", desc := "(I)Z" } : Jvm.MethodName) "MarkingHall",
  Cond.methodLinkNest "MarkingHall" (207 : Nat) ({ cls := "MarkingHall$Log", name := "append", desc := "(I)I" } : Jvm.MethodName) "MarkingHall",
  Cond.methodLinkNest "MarkingHall" (210 : Nat) ({ cls := "MarkingHall$Log", name := "clear", desc := "()I" } : Jvm.MethodName) "MarkingHall",
  Cond.methodLinkNest "MarkingHall" (213 : Nat) ({ cls := "MarkingHall$Log", name := "reachesTo", desc := "()I" } : Jvm.MethodName) "MarkingHall",
  Cond.methodLinkNest "MarkingHall$Log" (39 : Nat) ({ cls := "MarkingHall$Net", name := "allows", desc := "(JI)Z" } : Jvm.MethodName) "MarkingHall",
  Cond.methodLinkNest "MarkingHall$Log" (43 : Nat) ({ cls := "MarkingHall$Net", name := "behind", desc := "(JI)J" } : Jvm.MethodName) "MarkingHall",
  Cond.methodLinkNest "MarkingHall" (216 : Nat) ({ cls := "MarkingHall$Log", name := "leastCost", desc := "()I" } : Jvm.MethodName) "MarkingHall",
  Cond.methodLinkNest "MarkingHall$Log" (81 : Nat) ({ cls := "MarkingHall$Graph", name := "target", desc := "(II)I" } : Jvm.MethodName) "MarkingHall"]
def isNestW : Cond → Bool
  | .fieldLinkNest .. => true
  | .methodLinkNest .. => true
  | .declares .. => true
  | .castable .. => true
  | _ => false
def NWs (U : State) : Prop := ∀ w ∈ NW, va_Nw w U
theorem NW_ok : NW.all isNestW = true := by decide +kernel
theorem NWs.moved {s U : State} (hW : s.WarmedH U.vm) (h : NWs s) : NWs U := by
  intro w hw
  have h1 := List.all_eq_true.mp NW_ok w hw
  have h2 := h w hw
  cases w <;> first | exact va_Nw.warmF hW h2 | exact va_Nw.warmM hW h2 | exact va_Nw.warmD hW h2 | exact va_Nw.warmC hW h2 | (simp [isNestW] at h1)
theorem NWs.same {u U : State} (hv : u.vm = U.vm) (h : NWs u) : NWs U := by
  intro w hw
  have h1 := List.all_eq_true.mp NW_ok w hw
  have h2 := h w hw
  cases w <;> first | exact va_Nw.same rfl hv h2 | (simp [isNestW] at h1)
/-! numbers -/
def vI (z : Int) : Int32 := Int32.ofInt z
abbrev inR (z : Int) : Prop := -2147483648 ≤ z ∧ z < 2147483648
theorem vI_toInt {z : Int} (h : inR z) : (vI z).toInt = z := Int32.toInt_ofInt_of_le (by have := h.1; omega) (by have := h.2; omega)
theorem vI_of (x : Int32) : vI x.toInt = x := Int32.ofInt_toInt x
theorem vI_add (a b : Int) : vI a + vI b = vI (a + b) := (Int32.ofInt_add a b).symm
theorem vI_sub (a b : Int) : vI a - vI b = vI (a - b) := (Int32.ofInt_sub a b).symm
theorem vI_mul (a b : Int) : vI a * vI b = vI (a * b) := (Int32.ofInt_mul a b).symm
theorem vI_lt {a b : Int} (ha : inR a) (hb : inR b) : vI a < vI b ↔ a < b := by rw [Int32.lt_iff_toInt_lt, vI_toInt ha, vI_toInt hb]
theorem vI_le {a b : Int} (ha : inR a) (hb : inR b) : vI a ≤ vI b ↔ a ≤ b := by rw [Int32.le_iff_toInt_le, vI_toInt ha, vI_toInt hb]
theorem vI_eq {a b : Int} (ha : inR a) (hb : inR b) : vI a = vI b ↔ a = b := by rw [← Int32.toInt_inj, vI_toInt ha, vI_toInt hb]
theorem inR_0 : inR 0 := ⟨by decide, by decide⟩
theorem vI_in {i : Int} {n : Nat} (h : 0 ≤ i ∧ i < n) (hn : n < 2147483648) : vp_in (vI i) n ∧ (vI i).toNatClampNeg = i.toNat := by
  have hr : inR i := ⟨by omega, by omega⟩
  refine ⟨vp_in_iff.mpr ?_, ?_⟩
  · rw [vI_toInt hr]; exact h
  · show (vI i).toInt.toNat = _
    rw [vI_toInt hr]
def iAnd (a b : Int) : Int := (vI a &&& vI b).toInt
def iOr (a b : Int) : Int := (vI a ||| vI b).toInt
def iXor (a b : Int) : Int := (vI a ^^^ vI b).toInt
def iShl (a b : Int) : Int := (vI a <<< (vI b &&& 31)).toInt
def iShr (a b : Int) : Int := (vI a >>> (vI b &&& 31)).toInt
def iDiv (a b : Int) : Int := (vI a / vI b).toInt
def iRem (a b : Int) : Int := (vI a - vI a / vI b * vI b).toInt
def lI (a : Int) : Int64 := (vI a).toInt64
def lToI (x : Int64) : Int := x.toInt32.toInt
def lShl (x : Int64) (b : Int) : Int64 := x <<< ((vI b).toInt64 &&& 63)
def lShr (x : Int64) (b : Int) : Int64 := x >>> ((vI b).toInt64 &&& 63)
def lUshr (x : Int64) (b : Int) : Int64 := (x.toUInt64 >>> ((vI b).toInt64.toUInt64 &&& Int64.toUInt64 63)).toInt64
def iA (f : Nat → Int) : Nat → Int32 := fun k => vI (f k)
def uI {α : Type} (f : Nat → α) (k : Nat) (x : α) : Nat → α := fun j => if j = k then x else f j
theorem iA_upd (f : Nat → Int) (k : Nat) (x : Int) : upd (iA f) k (vI x) = iA (uI f k x) := by
  funext j
  show (if j = k then vI x else vI (f j)) = vI (if j = k then x else f j)
  split <;> rfl
theorem lA_upd (f : Nat → Int64) (k : Nat) (x : Int64) : vp_updL f k x = uI f k x := rfl
/-! programs: a guard, a named value, a loop's fuel -/
def G {α : Type} (c : Prop) [Decidable c] (k : Option α) : Option α := if c then k else none
def Bd {α β : Type} (x : α) (k : α → β) : β := k x
def Ob {α β : Type} (x : Option α) (k : α → Option β) : Option β := x.bind k
def NN : Nat := 2000000000
theorem G_of {α : Type} {c : Prop} [Decidable c] {k : Option α} {r : α} (h : G c k = some r) : c ∧ k = some r := by
  unfold G at h
  split at h
  · rename_i hc; exact ⟨hc, h⟩
  · cases h
theorem Ob_of {α β : Type} {x : Option α} {k : α → Option β} {r : β} (h : Ob x k = some r) : ∃ y, x = some y ∧ k y = some r := by
  cases x with
  | none => cases h
  | some y => exact ⟨y, rfl, h⟩
theorem if_t {α : Type} {c : Prop} [Decidable c] {a b r : α} (h : (if c then a else b) = r) (hc : c) : a = r := by rwa [if_pos hc] at h
theorem if_f {α : Type} {c : Prop} [Decidable c] {a b r : α} (h : (if c then a else b) = r) (hc : ¬ c) : b = r := by rwa [if_neg hc] at h
/-! the judgement -/
def JC (p : Program) (s : State) (m : MethodId) (args : Array Value) (meth : Method) (c : Code) (cc : ByteArray) (nL : Nat) (own : String) (D : va_G) (tys : List (ClassId × FieldType)) (A : Nat → Prop) : Prop :=
  p.tables.exec = Jvm.exec ∧ c.code = cc ∧ c.maxLocals = nL ∧ s.vm.findClass own = some m.cls ∧ (∀ w ∈ ALLW, w.before args s = true) ∧ meth.locks = false ∧ va_K D vwCl tys s ∧ (∀ q, s.heap.size ≤ q → A q) ∧ NWs s
def J (p : Program) (l : Launch) (e : Env) (R : Room) (s : State) (m : MethodId) (args : Array Value) (below : List Frame) (meth : Method) (c : Code) (D : va_G) (A : Nat → Prop) (nL : Nat) (Q : State → Prop) (cells slots : Nat) (ws : va_W) (pc : Nat) (lv : List (Nat × Value)) (st : List Value) : Prop :=
  ∀ (H : Heap) (locs : List Loc) (ls : Array Slot), va_P D vwCl ws H → va_D A ws → va_S A s.heap H locs → lv_has ls nL lv → W p l e R s m args below meth c H locs cells slots Q (F0 m pc ls st)
section JK
variable {p : Program} {l : Launch} {e : Env} {R : Room} {s : State} {m : MethodId} {args : Array Value} {below : List Frame} {meth : Method} {c : Code} {cc : ByteArray} {nL : Nat} {own : String} {D : va_G} {tys : List (ClassId × FieldType)} {A : Nat → Prop} {Q : State → Prop} {cells slots : Nat} {ws : va_W} {pc : Nat} {lv : List (Nat × Value)} {st : List Value} {ρ : Type} {res : ρ}
theorem J.step {pc' : Nat} {st' : List Value} (h : ∀ (H : Heap) (locs : List Loc) (ls : Array Slot), lv_has ls nL lv → W p l e R s m args below meth c H locs cells slots Q (F0 m pc' ls st') → W p l e R s m args below meth c H locs cells slots Q (F0 m pc ls st)) (k : J p l e R s m args below meth c D A nL Q cells slots ws pc' lv st') : J p l e R s m args below meth c D A nL Q cells slots ws pc lv st :=
  fun H locs ls hP hD hS hl => h H locs ls hl (k H locs ls hP hD hS hl)
theorem J.eq {st' : List Value} (hq : st = st') (k : J p l e R s m args below meth c D A nL Q cells slots ws pc lv st') : J p l e R s m args below meth c D A nL Q cells slots ws pc lv st := hq ▸ k
/-- the locals in another order, or fewer -/
theorem j_lv {lv' : List (Nat × Value)} (ks : List Nat) (h : lv_pick lv ks = lv') (k : J p l e R s m args below meth c D A nL Q cells slots ws pc lv' st) : J p l e R s m args below meth c D A nL Q cells slots ws pc lv st :=
  fun H locs ls hP hD hS hl => k H locs ls hP hD hS (lv_sub hl ks h)
theorem j_lv0 (k : J p l e R s m args below meth c D A nL Q cells slots ws pc [] st) : J p l e R s m args below meth c D A nL Q cells slots ws pc lv st := j_lv [] rfl k
/-- an int gets a name -/
theorem j_nm {F : Int → Option ρ} {x : Int} (h : Bd x F = some res) (k : ∀ v : Int, F v = some res → J p l e R s m args below meth c D A nL Q cells slots ws pc lv (.int (vI v) :: st)) : J p l e R s m args below meth c D A nL Q cells slots ws pc lv (.int (vI x) :: st) := k x h
theorem j_nmL {F : Int64 → Option ρ} {x : Int64} (h : Bd x F = some res) (k : ∀ v : Int64, F v = some res → J p l e R s m args below meth c D A nL Q cells slots ws pc lv (.long v :: st)) : J p l e R s m args below meth c D A nL Q cells slots ws pc lv (.long x :: st) := k x h
theorem j_nm2 {v0 : Value} {F : Int → Option ρ} {x : Int} (h : Bd x F = some res) (k : ∀ v : Int, F v = some res → J p l e R s m args below meth c D A nL Q cells slots ws pc lv (v0 :: .int (vI v) :: st)) : J p l e R s m args below meth c D A nL Q cells slots ws pc lv (v0 :: .int (vI x) :: st) := k x h
/-! constants -/
theorem j_iconst (C : JC p s m args meth c cc nL own D tys A) {n : Int} (hd : decode cc pc = .ok (.iconst n, 1)) (k : J p l e R s m args below meth c D A nL Q cells slots ws (pc + 1) lv (.int (vI n) :: st)) : J p l e R s m args below meth c D A nL Q cells slots ws pc lv st :=
  J.step (fun _ _ _ _ kk => lv_iconst C.1 C.2.1 hd rfl kk) k
theorem j_bipush (C : JC p s m args meth c cc nL own D tys A) {n : Int} (hn : (Int8.ofInt n).toInt32 = vI n) (hd : decode cc pc = .ok (.bipush n, 2)) (k : J p l e R s m args below meth c D A nL Q cells slots ws (pc + 2) lv (.int (vI n) :: st)) : J p l e R s m args below meth c D A nL Q cells slots ws pc lv st :=
  J.step (fun _ _ _ _ kk => lv_bipush C.1 C.2.1 hd hn kk) k
theorem j_sipush (C : JC p s m args meth c cc nL own D tys A) {n : Int} (hn : (Int16.ofInt n).toInt32 = vI n) (hd : decode cc pc = .ok (.sipush n, 3)) (k : J p l e R s m args below meth c D A nL Q cells slots ws (pc + 3) lv (.int (vI n) :: st)) : J p l e R s m args below meth c D A nL Q cells slots ws pc lv st :=
  J.step (fun _ _ _ _ kk => lv_sipush C.1 C.2.1 hd hn kk) k
theorem j_ldc (C : JC p s m args meth c cc nL own D tys A) {i : Nat} {v : Int32} {n : Int} (hv : vI n = v) (hw : Cond.constant own i v ∈ ALLW) (hd : decode cc pc = .ok (.ldc i, 2)) (k : J p l e R s m args below meth c D A nL Q cells slots ws (pc + 2) lv (.int (vI n) :: st)) : J p l e R s m args below meth c D A nL Q cells slots ws pc lv st :=
  J.step (fun _ _ _ _ kk => lv_ldc C.1 C.2.1 C.2.2.2.1 (C.2.2.2.2.1 _ hw) hd (hv ▸ kk)) k
theorem j_ldc2 (C : JC p s m args meth c cc nL own D tys A) {i : Nat} (v : Int64) (hw : Cond.constantLong own i v ∈ ALLW) (hd : decode cc pc = .ok (.ldc2_w i, 3)) (k : J p l e R s m args below meth c D A nL Q cells slots ws (pc + 3) lv (.long v :: st)) : J p l e R s m args below meth c D A nL Q cells slots ws pc lv st :=
  J.step (fun _ _ _ _ kk => lv_ldc2 C.1 C.2.1 C.2.2.2.1 (C.2.2.2.2.1 _ hw) hd kk) k
theorem j_lconst (C : JC p s m args meth c cc nL own D tys A) {n : Fin 2} (v : Int64) (hv : Int64.ofNat (n : Nat) = v) (hd : decode cc pc = .ok (.lconst n, 1)) (k : J p l e R s m args below meth c D A nL Q cells slots ws (pc + 1) lv (.long v :: st)) : J p l e R s m args below meth c D A nL Q cells slots ws pc lv st :=
  J.step (fun _ _ _ _ kk => lv_lconst C.1 C.2.1 hd hv kk) k
/-! locals -/
theorem j_iload_n (C : JC p s m args meth c cc nL own D tys A) {k : Fin 4} {i : Nat} {x : Int32} (n : Nat) (hn : lv[n]? = some (i, .int x)) (hi : (k : Nat) = i) (hd : decode cc pc = .ok (.iload_n k, 1)) (kk : J p l e R s m args below meth c D A nL Q cells slots ws (pc + 1) lv (.int x :: st)) : J p l e R s m args below meth c D A nL Q cells slots ws pc lv st :=
  J.step (fun _ _ _ hl kk => lv_iload_n C.1 C.2.1 hd hi (lv_at hl n hn) kk) kk
theorem j_iload (C : JC p s m args meth c cc nL own D tys A) {i : Nat} {x : Int32} (n : Nat) (hn : lv[n]? = some (i, .int x)) (hd : decode cc pc = .ok (.iload i, 2)) (kk : J p l e R s m args below meth c D A nL Q cells slots ws (pc + 2) lv (.int x :: st)) : J p l e R s m args below meth c D A nL Q cells slots ws pc lv st :=
  J.step (fun _ _ _ hl kk => lv_iload C.1 C.2.1 hd (lv_at hl n hn) kk) kk
theorem j_lload_n (C : JC p s m args meth c cc nL own D tys A) {k : Fin 4} {i : Nat} {x : Int64} (n : Nat) (hn : lv[n]? = some (i, .long x)) (hi : (k : Nat) = i) (hd : decode cc pc = .ok (.lload_n k, 1)) (kk : J p l e R s m args below meth c D A nL Q cells slots ws (pc + 1) lv (.long x :: st)) : J p l e R s m args below meth c D A nL Q cells slots ws pc lv st :=
  J.step (fun _ _ _ hl kk => lv_lload_n C.1 C.2.1 hd hi (lv_at hl n hn) kk) kk
theorem j_lload (C : JC p s m args meth c cc nL own D tys A) {i : Nat} {x : Int64} (n : Nat) (hn : lv[n]? = some (i, .long x)) (hd : decode cc pc = .ok (.lload i, 2)) (kk : J p l e R s m args below meth c D A nL Q cells slots ws (pc + 2) lv (.long x :: st)) : J p l e R s m args below meth c D A nL Q cells slots ws pc lv st :=
  J.step (fun _ _ _ hl kk => lv_lload C.1 C.2.1 hd (lv_at hl n hn) kk) kk
theorem j_aload_n (C : JC p s m args meth c cc nL own D tys A) {k : Fin 4} {i : Nat} {x : Nat} (n : Nat) (hn : lv[n]? = some (i, .ref x)) (hi : (k : Nat) = i) (hd : decode cc pc = .ok (.aload_n k, 1)) (kk : J p l e R s m args below meth c D A nL Q cells slots ws (pc + 1) lv (.ref x :: st)) : J p l e R s m args below meth c D A nL Q cells slots ws pc lv st :=
  J.step (fun _ _ _ hl kk => lv_aload_n C.1 C.2.1 hd hi (lv_at hl n hn) kk) kk
theorem j_aload (C : JC p s m args meth c cc nL own D tys A) {i : Nat} {x : Nat} (n : Nat) (hn : lv[n]? = some (i, .ref x)) (hd : decode cc pc = .ok (.aload i, 2)) (kk : J p l e R s m args below meth c D A nL Q cells slots ws (pc + 2) lv (.ref x :: st)) : J p l e R s m args below meth c D A nL Q cells slots ws pc lv st :=
  J.step (fun _ _ _ hl kk => lv_aload C.1 C.2.1 hd (lv_at hl n hn) kk) kk
abbrev lvS (i : Nat) (v : Value) (lv : List (Nat × Value)) : List (Nat × Value) := (i, v) :: lv.filter (fun q => !(q.1 == i) && !(q.1 + 1 == i && q.2.category == 2))
abbrev lvS2 (i : Nat) (v : Value) (lv : List (Nat × Value)) : List (Nat × Value) := (i, v) :: lv.filter (fun q => !(q.1 == i) && (!(q.1 == i + 1) && !(q.1 + 1 == i && q.2.category == 2)))
theorem j_istore_n (C : JC p s m args meth c cc nL own D tys A) {k : Fin 4} {i : Nat} {x : Int32} (lv' : List (Nat × Value)) (hl' : lvS i (.int x) lv = lv') (hi : (k : Nat) = i) (hn : i < nL) (hd : decode cc pc = .ok (.istore_n k, 1)) (kk : J p l e R s m args below meth c D A nL Q cells slots ws (pc + 1) lv' st) : J p l e R s m args below meth c D A nL Q cells slots ws pc lv (.int x :: st) :=
  fun H locs ls hP hD hS hl => lv_istore_n C.1 C.2.1 hd hi hl hn hl' (fun ls hl => kk H locs ls hP hD hS hl)
theorem j_istore (C : JC p s m args meth c cc nL own D tys A) {i : Nat} {x : Int32} (lv' : List (Nat × Value)) (hl' : lvS i (.int x) lv = lv') (hn : i < nL) (hd : decode cc pc = .ok (.istore i, 2)) (kk : J p l e R s m args below meth c D A nL Q cells slots ws (pc + 2) lv' st) : J p l e R s m args below meth c D A nL Q cells slots ws pc lv (.int x :: st) :=
  fun H locs ls hP hD hS hl => lv_istore C.1 C.2.1 hd hl hn hl' (fun ls hl => kk H locs ls hP hD hS hl)
theorem j_lstore_n (C : JC p s m args meth c cc nL own D tys A) {k : Fin 4} {i : Nat} {x : Int64} (lv' : List (Nat × Value)) (hl' : lvS2 i (.long x) lv = lv') (hi : (k : Nat) = i) (hn : i + 1 < nL) (hd : decode cc pc = .ok (.lstore_n k, 1)) (kk : J p l e R s m args below meth c D A nL Q cells slots ws (pc + 1) lv' st) : J p l e R s m args below meth c D A nL Q cells slots ws pc lv (.long x :: st) :=
  fun H locs ls hP hD hS hl => lv_lstore_n C.1 C.2.1 hd hi hl hn hl' (fun ls hl => kk H locs ls hP hD hS hl)
theorem j_iinc (C : JC p s m args meth c cc nL own D tys A) {i : Nat} {n : Int} {a : Int} {F : Int → Option ρ} (k0 : Nat) (hk : lv[k0]? = some (i, .int (vI a))) (lv' : Int → List (Nat × Value)) (hl' : ∀ v : Int, lvS i (.int (vI v)) lv = lv' v) (hn : i < nL) (h : Bd (a + n) F = some res) (hd : decode cc pc = .ok (.iinc i n, 3)) (kk : ∀ v : Int, F v = some res → J p l e R s m args below meth c D A nL Q cells slots ws (pc + 3) (lv' v) st) : J p l e R s m args below meth c D A nL Q cells slots ws pc lv st :=
  fun H locs ls hP hD hS hl => lv_iinc (k := k0) C.1 C.2.1 hd hl hk (vI_add a n) hn (hl' _) (fun ls hl => kk _ h H locs ls hP hD hS hl)
/-! arithmetic -/
theorem j_iadd (C : JC p s m args meth c cc nL own D tys A) {a b : Int} (hd : decode cc pc = .ok (.iadd, 1)) (k : J p l e R s m args below meth c D A nL Q cells slots ws (pc + 1) lv (.int (vI (a + b)) :: st)) : J p l e R s m args below meth c D A nL Q cells slots ws pc lv (.int (vI b) :: .int (vI a) :: st) :=
  J.step (fun _ _ _ _ kk => lv_iadd C.1 C.2.1 hd (by rw [vI_add]; exact kk)) k
theorem j_isub (C : JC p s m args meth c cc nL own D tys A) {a b : Int} (hd : decode cc pc = .ok (.isub, 1)) (k : J p l e R s m args below meth c D A nL Q cells slots ws (pc + 1) lv (.int (vI (a - b)) :: st)) : J p l e R s m args below meth c D A nL Q cells slots ws pc lv (.int (vI b) :: .int (vI a) :: st) :=
  J.step (fun _ _ _ _ kk => lv_isub C.1 C.2.1 hd (by rw [vI_sub]; exact kk)) k
theorem j_imul (C : JC p s m args meth c cc nL own D tys A) {a b : Int} (hd : decode cc pc = .ok (.imul, 1)) (k : J p l e R s m args below meth c D A nL Q cells slots ws (pc + 1) lv (.int (vI (a * b)) :: st)) : J p l e R s m args below meth c D A nL Q cells slots ws pc lv (.int (vI b) :: .int (vI a) :: st) :=
  J.step (fun _ _ _ _ kk => lv_imul C.1 C.2.1 hd (by rw [vI_mul]; exact kk)) k
theorem j_iand (C : JC p s m args meth c cc nL own D tys A) {a b : Int} (hd : decode cc pc = .ok (.iand, 1)) (k : J p l e R s m args below meth c D A nL Q cells slots ws (pc + 1) lv (.int (vI (iAnd a b)) :: st)) : J p l e R s m args below meth c D A nL Q cells slots ws pc lv (.int (vI b) :: .int (vI a) :: st) :=
  J.step (fun _ _ _ _ kk => lv_iand C.1 C.2.1 hd (by rw [← vI_of (vI a &&& vI b)]; exact kk)) k
theorem j_ior (C : JC p s m args meth c cc nL own D tys A) {a b : Int} (hd : decode cc pc = .ok (.ior, 1)) (k : J p l e R s m args below meth c D A nL Q cells slots ws (pc + 1) lv (.int (vI (iOr a b)) :: st)) : J p l e R s m args below meth c D A nL Q cells slots ws pc lv (.int (vI b) :: .int (vI a) :: st) :=
  J.step (fun _ _ _ _ kk => lv_ior C.1 C.2.1 hd (by rw [← vI_of (vI a ||| vI b)]; exact kk)) k
theorem j_ixor (C : JC p s m args meth c cc nL own D tys A) {a b : Int} (hd : decode cc pc = .ok (.ixor, 1)) (k : J p l e R s m args below meth c D A nL Q cells slots ws (pc + 1) lv (.int (vI (iXor a b)) :: st)) : J p l e R s m args below meth c D A nL Q cells slots ws pc lv (.int (vI b) :: .int (vI a) :: st) :=
  J.step (fun _ _ _ _ kk => lv_ixor C.1 C.2.1 hd (by rw [← vI_of (vI a ^^^ vI b)]; exact kk)) k
theorem j_ishl (C : JC p s m args meth c cc nL own D tys A) {a b : Int} (hd : decode cc pc = .ok (.ishl, 1)) (k : J p l e R s m args below meth c D A nL Q cells slots ws (pc + 1) lv (.int (vI (iShl a b)) :: st)) : J p l e R s m args below meth c D A nL Q cells slots ws pc lv (.int (vI b) :: .int (vI a) :: st) :=
  J.step (fun _ _ _ _ kk => lv_ishl C.1 C.2.1 hd (by rw [← vI_of (vI a <<< (vI b &&& 31))]; exact kk)) k
theorem j_ishr (C : JC p s m args meth c cc nL own D tys A) {a b : Int} (hd : decode cc pc = .ok (.ishr, 1)) (k : J p l e R s m args below meth c D A nL Q cells slots ws (pc + 1) lv (.int (vI (iShr a b)) :: st)) : J p l e R s m args below meth c D A nL Q cells slots ws pc lv (.int (vI b) :: .int (vI a) :: st) :=
  J.step (fun _ _ _ _ kk => lv_ishr C.1 C.2.1 hd (by rw [← vI_of (vI a >>> (vI b &&& 31))]; exact kk)) k
theorem nz_of {b : Int} (h : inR b ∧ b ≠ 0) : ¬ vI b = 0 := fun q => h.2 ((vI_eq h.1 inR_0).mp q)
theorem j_idiv (C : JC p s m args meth c cc nL own D tys A) {a b : Int} {K : Option ρ} (h : G (inR b ∧ b ≠ 0) K = some res) (hd : decode cc pc = .ok (.idiv, 1)) (k : K = some res → J p l e R s m args below meth c D A nL Q cells slots ws (pc + 1) lv (.int (vI (iDiv a b)) :: st)) : J p l e R s m args below meth c D A nL Q cells slots ws pc lv (.int (vI b) :: .int (vI a) :: st) :=
  J.step (fun _ _ _ _ kk => lv_idiv C.1 C.2.1 hd (nz_of (G_of h).1) (by rw [← vI_of (vI a / vI b)]; exact kk)) (k (G_of h).2)
theorem j_irem (C : JC p s m args meth c cc nL own D tys A) {a b : Int} {K : Option ρ} (h : G (inR b ∧ b ≠ 0) K = some res) (hd : decode cc pc = .ok (.irem, 1)) (k : K = some res → J p l e R s m args below meth c D A nL Q cells slots ws (pc + 1) lv (.int (vI (iRem a b)) :: st)) : J p l e R s m args below meth c D A nL Q cells slots ws pc lv (.int (vI b) :: .int (vI a) :: st) :=
  J.step (fun _ _ _ _ kk => lv_irem C.1 C.2.1 hd (nz_of (G_of h).1) (by rw [← vI_of (vI a - vI a / vI b * vI b)]; exact kk)) (k (G_of h).2)
theorem j_i2l (C : JC p s m args meth c cc nL own D tys A) {a : Int} (hd : decode cc pc = .ok (.i2l, 1)) (k : J p l e R s m args below meth c D A nL Q cells slots ws (pc + 1) lv (.long (lI a) :: st)) : J p l e R s m args below meth c D A nL Q cells slots ws pc lv (.int (vI a) :: st) :=
  J.step (fun _ _ _ _ kk => lv_i2l C.1 C.2.1 hd rfl kk) k
theorem j_l2i (C : JC p s m args meth c cc nL own D tys A) {x : Int64} (hd : decode cc pc = .ok (.l2i, 1)) (k : J p l e R s m args below meth c D A nL Q cells slots ws (pc + 1) lv (.int (vI (lToI x)) :: st)) : J p l e R s m args below meth c D A nL Q cells slots ws pc lv (.long x :: st) :=
  J.step (fun _ _ _ _ kk => lv_l2i C.1 C.2.1 hd (vI_of _).symm kk) k
theorem j_land (C : JC p s m args meth c cc nL own D tys A) {x y : Int64} (hd : decode cc pc = .ok (.land, 1)) (k : J p l e R s m args below meth c D A nL Q cells slots ws (pc + 1) lv (.long (x &&& y) :: st)) : J p l e R s m args below meth c D A nL Q cells slots ws pc lv (.long y :: .long x :: st) := J.step (fun _ _ _ _ kk => lv_land C.1 C.2.1 hd kk) k
theorem j_lor (C : JC p s m args meth c cc nL own D tys A) {x y : Int64} (hd : decode cc pc = .ok (.lor, 1)) (k : J p l e R s m args below meth c D A nL Q cells slots ws (pc + 1) lv (.long (x ||| y) :: st)) : J p l e R s m args below meth c D A nL Q cells slots ws pc lv (.long y :: .long x :: st) := J.step (fun _ _ _ _ kk => lv_lor C.1 C.2.1 hd kk) k
theorem j_lxor (C : JC p s m args meth c cc nL own D tys A) {x y : Int64} (hd : decode cc pc = .ok (.lxor, 1)) (k : J p l e R s m args below meth c D A nL Q cells slots ws (pc + 1) lv (.long (x ^^^ y) :: st)) : J p l e R s m args below meth c D A nL Q cells slots ws pc lv (.long y :: .long x :: st) := J.step (fun _ _ _ _ kk => lv_lxor C.1 C.2.1 hd kk) k
theorem j_ladd (C : JC p s m args meth c cc nL own D tys A) {x y : Int64} (hd : decode cc pc = .ok (.ladd, 1)) (k : J p l e R s m args below meth c D A nL Q cells slots ws (pc + 1) lv (.long (x + y) :: st)) : J p l e R s m args below meth c D A nL Q cells slots ws pc lv (.long y :: .long x :: st) := J.step (fun _ _ _ _ kk => lv_ladd C.1 C.2.1 hd kk) k
theorem j_lsub (C : JC p s m args meth c cc nL own D tys A) {x y : Int64} (hd : decode cc pc = .ok (.lsub, 1)) (k : J p l e R s m args below meth c D A nL Q cells slots ws (pc + 1) lv (.long (x - y) :: st)) : J p l e R s m args below meth c D A nL Q cells slots ws pc lv (.long y :: .long x :: st) := J.step (fun _ _ _ _ kk => lv_lsub C.1 C.2.1 hd kk) k
theorem j_lmul (C : JC p s m args meth c cc nL own D tys A) {x y : Int64} (hd : decode cc pc = .ok (.lmul, 1)) (k : J p l e R s m args below meth c D A nL Q cells slots ws (pc + 1) lv (.long (x * y) :: st)) : J p l e R s m args below meth c D A nL Q cells slots ws pc lv (.long y :: .long x :: st) := J.step (fun _ _ _ _ kk => lv_lmul C.1 C.2.1 hd kk) k
theorem j_lshl (C : JC p s m args meth c cc nL own D tys A) {x : Int64} {b : Int} (hd : decode cc pc = .ok (.lshl, 1)) (k : J p l e R s m args below meth c D A nL Q cells slots ws (pc + 1) lv (.long (lShl x b) :: st)) : J p l e R s m args below meth c D A nL Q cells slots ws pc lv (.int (vI b) :: .long x :: st) := J.step (fun _ _ _ _ kk => lv_lshl C.1 C.2.1 hd rfl kk) k
theorem j_lshr (C : JC p s m args meth c cc nL own D tys A) {x : Int64} {b : Int} (hd : decode cc pc = .ok (.lshr, 1)) (k : J p l e R s m args below meth c D A nL Q cells slots ws (pc + 1) lv (.long (lShr x b) :: st)) : J p l e R s m args below meth c D A nL Q cells slots ws pc lv (.int (vI b) :: .long x :: st) := J.step (fun _ _ _ _ kk => lv_lshr C.1 C.2.1 hd rfl kk) k
theorem j_lushr (C : JC p s m args meth c cc nL own D tys A) {x : Int64} {b : Int} (hd : decode cc pc = .ok (.lushr, 1)) (k : J p l e R s m args below meth c D A nL Q cells slots ws (pc + 1) lv (.long (lUshr x b) :: st)) : J p l e R s m args below meth c D A nL Q cells slots ws pc lv (.int (vI b) :: .long x :: st) := J.step (fun _ _ _ _ kk => lv_lushr C.1 C.2.1 hd rfl kk) k
/-! the stack, jumps -/
theorem j_dup (C : JC p s m args meth c cc nL own D tys A) {v : Value} (hv : v.category = 1) (hd : decode cc pc = .ok (.dup, 1)) (k : J p l e R s m args below meth c D A nL Q cells slots ws (pc + 1) lv (v :: v :: st)) : J p l e R s m args below meth c D A nL Q cells slots ws pc lv (v :: st) := J.step (fun _ _ _ _ kk => lv_dup C.1 C.2.1 hd hv kk) k
theorem j_pop (C : JC p s m args meth c cc nL own D tys A) {v : Value} (hv : v.category = 1) (hd : decode cc pc = .ok (.pop, 1)) (k : J p l e R s m args below meth c D A nL Q cells slots ws (pc + 1) lv st) : J p l e R s m args below meth c D A nL Q cells slots ws pc lv (v :: st) := J.step (fun _ _ _ _ kk => lv_pop C.1 C.2.1 hd hv kk) k
theorem j_dup2 (C : JC p s m args meth c cc nL own D tys A) {v w : Value} (hv : v.category = 1) (hw : w.category = 1) (hd : decode cc pc = .ok (.dup2, 1)) (k : J p l e R s m args below meth c D A nL Q cells slots ws (pc + 1) lv (v :: w :: v :: w :: st)) : J p l e R s m args below meth c D A nL Q cells slots ws pc lv (v :: w :: st) := J.step (fun _ _ _ _ kk => lv_dup2_11 C.1 C.2.1 hd hv hw kk) k
theorem j_goto (C : JC p s m args meth c cc nL own D tys A) {off : Int} (tgt : Nat) (ht : (pc : Int) + off = (tgt : Int)) (hd : decode cc pc = .ok (.goto off, 3)) (k : J p l e R s m args below meth c D A nL Q cells slots ws tgt lv st) : J p l e R s m args below meth c D A nL Q cells slots ws pc lv st := J.step (fun _ _ _ _ kk => lv_goto C.1 C.2.1 hd ht kk) k
/-! branches -/
theorem j_icmp_lt (C : JC p s m args meth c cc nL own D tys A) {a b : Int} {off : Int} {T E : Option ρ} (h : G (inR a ∧ inR b) (if a < b then T else E) = some res) (tgt : Nat) (ht : (pc : Int) + off = (tgt : Int)) (hd : decode cc pc = .ok (.if_icmp .lt off, 3)) (kt : a < b → T = some res → J p l e R s m args below meth c D A nL Q cells slots ws tgt lv st) (kf : ¬ a < b → E = some res → J p l e R s m args below meth c D A nL Q cells slots ws (pc + 3) lv st) : J p l e R s m args below meth c D A nL Q cells slots ws pc lv (.int (vI b) :: .int (vI a) :: st) := by
  obtain ⟨g, h⟩ := G_of h
  intro H locs ls hP hD hS hl
  exact lv_icmp_lt C.1 C.2.1 hd ht (fun q => kt ((vI_lt g.1 g.2).mp q) (if_t h ((vI_lt g.1 g.2).mp q)) H locs ls hP hD hS hl) (fun q => kf (fun z => q ((vI_lt g.1 g.2).mpr z)) (if_f h (fun z => q ((vI_lt g.1 g.2).mpr z))) H locs ls hP hD hS hl)
theorem j_icmp_ge (C : JC p s m args meth c cc nL own D tys A) {a b : Int} {off : Int} {T E : Option ρ} (h : G (inR a ∧ inR b) (if b ≤ a then T else E) = some res) (tgt : Nat) (ht : (pc : Int) + off = (tgt : Int)) (hd : decode cc pc = .ok (.if_icmp .ge off, 3)) (kt : b ≤ a → T = some res → J p l e R s m args below meth c D A nL Q cells slots ws tgt lv st) (kf : ¬ b ≤ a → E = some res → J p l e R s m args below meth c D A nL Q cells slots ws (pc + 3) lv st) : J p l e R s m args below meth c D A nL Q cells slots ws pc lv (.int (vI b) :: .int (vI a) :: st) := by
  obtain ⟨g, h⟩ := G_of h
  intro H locs ls hP hD hS hl
  exact lv_icmp_ge C.1 C.2.1 hd ht (fun q => kt ((vI_le g.2 g.1).mp q) (if_t h ((vI_le g.2 g.1).mp q)) H locs ls hP hD hS hl) (fun q => kf (fun z => q ((vI_le g.2 g.1).mpr z)) (if_f h (fun z => q ((vI_le g.2 g.1).mpr z))) H locs ls hP hD hS hl)
theorem j_icmp_gt (C : JC p s m args meth c cc nL own D tys A) {a b : Int} {off : Int} {T E : Option ρ} (h : G (inR a ∧ inR b) (if b < a then T else E) = some res) (tgt : Nat) (ht : (pc : Int) + off = (tgt : Int)) (hd : decode cc pc = .ok (.if_icmp .gt off, 3)) (kt : b < a → T = some res → J p l e R s m args below meth c D A nL Q cells slots ws tgt lv st) (kf : ¬ b < a → E = some res → J p l e R s m args below meth c D A nL Q cells slots ws (pc + 3) lv st) : J p l e R s m args below meth c D A nL Q cells slots ws pc lv (.int (vI b) :: .int (vI a) :: st) := by
  obtain ⟨g, h⟩ := G_of h
  intro H locs ls hP hD hS hl
  exact lv_icmp_gt C.1 C.2.1 hd ht (fun q => kt ((vI_lt g.2 g.1).mp q) (if_t h ((vI_lt g.2 g.1).mp q)) H locs ls hP hD hS hl) (fun q => kf (fun z => q ((vI_lt g.2 g.1).mpr z)) (if_f h (fun z => q ((vI_lt g.2 g.1).mpr z))) H locs ls hP hD hS hl)
theorem j_icmp_le (C : JC p s m args meth c cc nL own D tys A) {a b : Int} {off : Int} {T E : Option ρ} (h : G (inR a ∧ inR b) (if a ≤ b then T else E) = some res) (tgt : Nat) (ht : (pc : Int) + off = (tgt : Int)) (hd : decode cc pc = .ok (.if_icmp .le off, 3)) (kt : a ≤ b → T = some res → J p l e R s m args below meth c D A nL Q cells slots ws tgt lv st) (kf : ¬ a ≤ b → E = some res → J p l e R s m args below meth c D A nL Q cells slots ws (pc + 3) lv st) : J p l e R s m args below meth c D A nL Q cells slots ws pc lv (.int (vI b) :: .int (vI a) :: st) := by
  obtain ⟨g, h⟩ := G_of h
  intro H locs ls hP hD hS hl
  exact lv_icmp_le C.1 C.2.1 hd ht (fun q => kt ((vI_le g.1 g.2).mp q) (if_t h ((vI_le g.1 g.2).mp q)) H locs ls hP hD hS hl) (fun q => kf (fun z => q ((vI_le g.1 g.2).mpr z)) (if_f h (fun z => q ((vI_le g.1 g.2).mpr z))) H locs ls hP hD hS hl)
theorem j_icmp_eq (C : JC p s m args meth c cc nL own D tys A) {a b : Int} {off : Int} {T E : Option ρ} (h : G (inR a ∧ inR b) (if a = b then T else E) = some res) (tgt : Nat) (ht : (pc : Int) + off = (tgt : Int)) (hd : decode cc pc = .ok (.if_icmp .eq off, 3)) (kt : a = b → T = some res → J p l e R s m args below meth c D A nL Q cells slots ws tgt lv st) (kf : ¬ a = b → E = some res → J p l e R s m args below meth c D A nL Q cells slots ws (pc + 3) lv st) : J p l e R s m args below meth c D A nL Q cells slots ws pc lv (.int (vI b) :: .int (vI a) :: st) := by
  obtain ⟨g, h⟩ := G_of h
  intro H locs ls hP hD hS hl
  exact lv_icmp_eq C.1 C.2.1 hd ht (fun q => kt ((vI_eq g.1 g.2).mp q) (if_t h ((vI_eq g.1 g.2).mp q)) H locs ls hP hD hS hl) (fun q => kf (fun z => q ((vI_eq g.1 g.2).mpr z)) (if_f h (fun z => q ((vI_eq g.1 g.2).mpr z))) H locs ls hP hD hS hl)
theorem j_icmp_ne (C : JC p s m args meth c cc nL own D tys A) {a b : Int} {off : Int} {T E : Option ρ} (h : G (inR a ∧ inR b) (if a = b then E else T) = some res) (tgt : Nat) (ht : (pc : Int) + off = (tgt : Int)) (hd : decode cc pc = .ok (.if_icmp .ne off, 3)) (kt : ¬ a = b → T = some res → J p l e R s m args below meth c D A nL Q cells slots ws tgt lv st) (kf : a = b → E = some res → J p l e R s m args below meth c D A nL Q cells slots ws (pc + 3) lv st) : J p l e R s m args below meth c D A nL Q cells slots ws pc lv (.int (vI b) :: .int (vI a) :: st) := by
  obtain ⟨g, h⟩ := G_of h
  intro H locs ls hP hD hS hl
  exact lv_icmp_ne C.1 C.2.1 hd ht (fun q => kt (fun z => q ((vI_eq g.1 g.2).mpr z)) (if_f h (fun z => q ((vI_eq g.1 g.2).mpr z))) H locs ls hP hD hS hl) (fun q => kf ((vI_eq g.1 g.2).mp q) (if_t h ((vI_eq g.1 g.2).mp q)) H locs ls hP hD hS hl)
theorem j_if_lt (C : JC p s m args meth c cc nL own D tys A) {a : Int} {off : Int} {T E : Option ρ} (h : G (inR a) (if a < 0 then T else E) = some res) (tgt : Nat) (ht : (pc : Int) + off = (tgt : Int)) (hd : decode cc pc = .ok (.ifCond .lt off, 3)) (kt : a < 0 → T = some res → J p l e R s m args below meth c D A nL Q cells slots ws tgt lv st) (kf : ¬ a < 0 → E = some res → J p l e R s m args below meth c D A nL Q cells slots ws (pc + 3) lv st) : J p l e R s m args below meth c D A nL Q cells slots ws pc lv (.int (vI a) :: st) := by
  obtain ⟨g, h⟩ := G_of h
  intro H locs ls hP hD hS hl
  exact lv_if_lt C.1 C.2.1 hd ht (fun q => kt ((vI_lt g inR_0).mp q) (if_t h ((vI_lt g inR_0).mp q)) H locs ls hP hD hS hl) (fun q => kf (fun z => q ((vI_lt g inR_0).mpr z)) (if_f h (fun z => q ((vI_lt g inR_0).mpr z))) H locs ls hP hD hS hl)
theorem j_if_ge (C : JC p s m args meth c cc nL own D tys A) {a : Int} {off : Int} {T E : Option ρ} (h : G (inR a) (if 0 ≤ a then T else E) = some res) (tgt : Nat) (ht : (pc : Int) + off = (tgt : Int)) (hd : decode cc pc = .ok (.ifCond .ge off, 3)) (kt : 0 ≤ a → T = some res → J p l e R s m args below meth c D A nL Q cells slots ws tgt lv st) (kf : ¬ 0 ≤ a → E = some res → J p l e R s m args below meth c D A nL Q cells slots ws (pc + 3) lv st) : J p l e R s m args below meth c D A nL Q cells slots ws pc lv (.int (vI a) :: st) := by
  obtain ⟨g, h⟩ := G_of h
  intro H locs ls hP hD hS hl
  exact lv_if_ge C.1 C.2.1 hd ht (fun q => kt ((vI_le inR_0 g).mp q) (if_t h ((vI_le inR_0 g).mp q)) H locs ls hP hD hS hl) (fun q => kf (fun z => q ((vI_le inR_0 g).mpr z)) (if_f h (fun z => q ((vI_le inR_0 g).mpr z))) H locs ls hP hD hS hl)
theorem j_if_gt (C : JC p s m args meth c cc nL own D tys A) {a : Int} {off : Int} {T E : Option ρ} (h : G (inR a) (if 0 < a then T else E) = some res) (tgt : Nat) (ht : (pc : Int) + off = (tgt : Int)) (hd : decode cc pc = .ok (.ifCond .gt off, 3)) (kt : 0 < a → T = some res → J p l e R s m args below meth c D A nL Q cells slots ws tgt lv st) (kf : ¬ 0 < a → E = some res → J p l e R s m args below meth c D A nL Q cells slots ws (pc + 3) lv st) : J p l e R s m args below meth c D A nL Q cells slots ws pc lv (.int (vI a) :: st) := by
  obtain ⟨g, h⟩ := G_of h
  intro H locs ls hP hD hS hl
  exact lv_if_gt C.1 C.2.1 hd ht (fun q => kt ((vI_lt inR_0 g).mp q) (if_t h ((vI_lt inR_0 g).mp q)) H locs ls hP hD hS hl) (fun q => kf (fun z => q ((vI_lt inR_0 g).mpr z)) (if_f h (fun z => q ((vI_lt inR_0 g).mpr z))) H locs ls hP hD hS hl)
theorem j_if_le (C : JC p s m args meth c cc nL own D tys A) {a : Int} {off : Int} {T E : Option ρ} (h : G (inR a) (if a ≤ 0 then T else E) = some res) (tgt : Nat) (ht : (pc : Int) + off = (tgt : Int)) (hd : decode cc pc = .ok (.ifCond .le off, 3)) (kt : a ≤ 0 → T = some res → J p l e R s m args below meth c D A nL Q cells slots ws tgt lv st) (kf : ¬ a ≤ 0 → E = some res → J p l e R s m args below meth c D A nL Q cells slots ws (pc + 3) lv st) : J p l e R s m args below meth c D A nL Q cells slots ws pc lv (.int (vI a) :: st) := by
  obtain ⟨g, h⟩ := G_of h
  intro H locs ls hP hD hS hl
  exact lv_if_le C.1 C.2.1 hd ht (fun q => kt ((vI_le g inR_0).mp q) (if_t h ((vI_le g inR_0).mp q)) H locs ls hP hD hS hl) (fun q => kf (fun z => q ((vI_le g inR_0).mpr z)) (if_f h (fun z => q ((vI_le g inR_0).mpr z))) H locs ls hP hD hS hl)
theorem j_if_eq (C : JC p s m args meth c cc nL own D tys A) {a : Int} {off : Int} {T E : Option ρ} (h : G (inR a) (if a = 0 then T else E) = some res) (tgt : Nat) (ht : (pc : Int) + off = (tgt : Int)) (hd : decode cc pc = .ok (.ifCond .eq off, 3)) (kt : a = 0 → T = some res → J p l e R s m args below meth c D A nL Q cells slots ws tgt lv st) (kf : ¬ a = 0 → E = some res → J p l e R s m args below meth c D A nL Q cells slots ws (pc + 3) lv st) : J p l e R s m args below meth c D A nL Q cells slots ws pc lv (.int (vI a) :: st) := by
  obtain ⟨g, h⟩ := G_of h
  intro H locs ls hP hD hS hl
  exact lv_if_eq C.1 C.2.1 hd ht (fun q => kt ((vI_eq g inR_0).mp q) (if_t h ((vI_eq g inR_0).mp q)) H locs ls hP hD hS hl) (fun q => kf (fun z => q ((vI_eq g inR_0).mpr z)) (if_f h (fun z => q ((vI_eq g inR_0).mpr z))) H locs ls hP hD hS hl)
theorem j_if_ne (C : JC p s m args meth c cc nL own D tys A) {a : Int} {off : Int} {T E : Option ρ} (h : G (inR a) (if a = 0 then E else T) = some res) (tgt : Nat) (ht : (pc : Int) + off = (tgt : Int)) (hd : decode cc pc = .ok (.ifCond .ne off, 3)) (kt : ¬ a = 0 → T = some res → J p l e R s m args below meth c D A nL Q cells slots ws tgt lv st) (kf : a = 0 → E = some res → J p l e R s m args below meth c D A nL Q cells slots ws (pc + 3) lv st) : J p l e R s m args below meth c D A nL Q cells slots ws pc lv (.int (vI a) :: st) := by
  obtain ⟨g, h⟩ := G_of h
  intro H locs ls hP hD hS hl
  exact lv_if_ne C.1 C.2.1 hd ht (fun q => kt (fun z => q ((vI_eq g inR_0).mpr z)) (if_f h (fun z => q ((vI_eq g inR_0).mpr z))) H locs ls hP hD hS hl) (fun q => kf ((vI_eq g inR_0).mp q) (if_t h ((vI_eq g inR_0).mp q)) H locs ls hP hD hS hl)
theorem j_lcmp_eq (C : JC p s m args meth c cc nL own D tys A) {x y : Int64} {off : Int} {T E : Option ρ} (h : (if x = y then T else E) = some res) (tgt : Nat) (ht : ((pc + 1 : Nat) : Int) + off = (tgt : Int)) (hd : decode cc pc = .ok (.lcmp, 1)) (hd2 : decode cc (pc + 1) = .ok (.ifCond .eq off, 3)) (kt : x = y → T = some res → J p l e R s m args below meth c D A nL Q cells slots ws tgt lv st) (kf : ¬ x = y → E = some res → J p l e R s m args below meth c D A nL Q cells slots ws (pc + 1 + 3) lv st) : J p l e R s m args below meth c D A nL Q cells slots ws pc lv (.long y :: .long x :: st) := by
  intro H locs ls hP hD hS hl
  refine W.lcmp C.1 C.2.1 hd ?_
  exact lv_if_eq C.1 C.2.1 hd2 ht (fun q => kt ((lg_cmp_eq x y).mp q) (if_t h ((lg_cmp_eq x y).mp q)) H locs ls hP hD hS hl) (fun q => kf (fun z => q ((lg_cmp_eq x y).mpr z)) (if_f h (fun z => q ((lg_cmp_eq x y).mpr z))) H locs ls hP hD hS hl)
theorem j_lcmp_ne (C : JC p s m args meth c cc nL own D tys A) {x y : Int64} {off : Int} {T E : Option ρ} (h : (if x = y then E else T) = some res) (tgt : Nat) (ht : ((pc + 1 : Nat) : Int) + off = (tgt : Int)) (hd : decode cc pc = .ok (.lcmp, 1)) (hd2 : decode cc (pc + 1) = .ok (.ifCond .ne off, 3)) (kt : ¬ x = y → T = some res → J p l e R s m args below meth c D A nL Q cells slots ws tgt lv st) (kf : x = y → E = some res → J p l e R s m args below meth c D A nL Q cells slots ws (pc + 1 + 3) lv st) : J p l e R s m args below meth c D A nL Q cells slots ws pc lv (.long y :: .long x :: st) := by
  intro H locs ls hP hD hS hl
  refine W.lcmp C.1 C.2.1 hd ?_
  exact lv_if_ne C.1 C.2.1 hd2 ht (fun q => kt (fun z => q ((lg_cmp_eq x y).mpr z)) (if_f h (fun z => q ((lg_cmp_eq x y).mpr z))) H locs ls hP hD hS hl) (fun q => kf ((lg_cmp_eq x y).mp q) (if_t h ((lg_cmp_eq x y).mp q)) H locs ls hP hD hS hl)
/-! arrays -/
theorem j_iald (C : JC p s m args meth c cc nL own D tys A) {a : Nat} {cA : ClassId} {n : Nat} {f : Nat → Int} {i : Int} {F : Int → Option ρ} (q0 t0 : Nat) (ha : ws[q0]? = some (a, .inl (cA, n, .inl (iA f)))) (ht : tys[t0]? = some (cA, .int)) (hn : n < 2147483648) (h : G (0 ≤ i ∧ i < n) (Bd (f i.toNat) F) = some res) (hd : decode cc pc = .ok (.iaload, 1)) (k : ∀ v : Int, F v = some res → J p l e R s m args below meth c D A nL Q cells slots ws (pc + 1) lv (.int (vI v) :: st)) : J p l e R s m args below meth c D A nL Q cells slots ws pc lv (.int (vI i) :: .ref a :: st) := by
  obtain ⟨g, h⟩ := G_of h
  obtain ⟨h1, h2⟩ := vI_in g hn
  intro H locs ls hP hD hS hl
  refine va_iald C.1 C.2.1 C.2.2.2.2.2.2.1 hP q0 t0 ha ht h1 hd ?_
  rw [h2]
  exact k _ h H locs ls hP hD hS hl
theorem j_zald (C : JC p s m args meth c cc nL own D tys A) {a : Nat} {cA : ClassId} {n : Nat} {f : Nat → Int} {i : Int} {F : Int → Option ρ} (q0 t0 : Nat) (ha : ws[q0]? = some (a, .inl (cA, n, .inl (iA f)))) (ht : tys[t0]? = some (cA, .boolean)) (hn : n < 2147483648) (h : G (0 ≤ i ∧ i < n) (Bd (f i.toNat) F) = some res) (hd : decode cc pc = .ok (.baload, 1)) (k : ∀ v : Int, F v = some res → J p l e R s m args below meth c D A nL Q cells slots ws (pc + 1) lv (.int (vI v) :: st)) : J p l e R s m args below meth c D A nL Q cells slots ws pc lv (.int (vI i) :: .ref a :: st) := by
  obtain ⟨g, h⟩ := G_of h
  obtain ⟨h1, h2⟩ := vI_in g hn
  intro H locs ls hP hD hS hl
  refine va_zald C.1 C.2.1 C.2.2.2.2.2.2.1 hP q0 t0 ha ht h1 hd ?_
  rw [h2]
  exact k _ h H locs ls hP hD hS hl
theorem j_lald (C : JC p s m args meth c cc nL own D tys A) {a : Nat} {cA : ClassId} {n : Nat} {f : Nat → Int64} {i : Int} {F : Int64 → Option ρ} (q0 t0 : Nat) (ha : ws[q0]? = some (a, .inl (cA, n, .inr (.inl f)))) (ht : tys[t0]? = some (cA, .long)) (hn : n < 2147483648) (h : G (0 ≤ i ∧ i < n) (Bd (f i.toNat) F) = some res) (hd : decode cc pc = .ok (.laload, 1)) (k : ∀ v : Int64, F v = some res → J p l e R s m args below meth c D A nL Q cells slots ws (pc + 1) lv (.long v :: st)) : J p l e R s m args below meth c D A nL Q cells slots ws pc lv (.int (vI i) :: .ref a :: st) := by
  obtain ⟨g, h⟩ := G_of h
  obtain ⟨h1, h2⟩ := vI_in g hn
  intro H locs ls hP hD hS hl
  refine va_lald C.1 C.2.1 C.2.2.2.2.2.2.1 hP q0 t0 ha ht h1 hd ?_
  rw [h2]
  exact k _ h H locs ls hP hD hS hl
theorem j_iast (C : JC p s m args meth c cc nL own D tys A) {a : Nat} {cA : ClassId} {n : Nat} {f : Nat → Int} {i x : Int} {F : (Nat → Int) → Option ρ} (q0 t0 : Nat) (ha : ws[q0]? = some (a, .inl (cA, n, .inl (iA f)))) (ht : tys[t0]? = some (cA, .int)) (hn : n < 2147483648) (ws' : (Nat → Int) → va_W) (hw : ∀ f', ws.set q0 (a, .inl (cA, n, .inl (iA f'))) = ws' f') (h : G (0 ≤ i ∧ i < n) (Bd (uI f i.toNat x) F) = some res) (hd : decode cc pc = .ok (.iastore, 1)) (k : ∀ f' : Nat → Int, F f' = some res → J p l e R s m args below meth c D A nL Q cells slots (ws' f') (pc + 1) lv st) : J p l e R s m args below meth c D A nL Q cells slots ws pc lv (.int (vI x) :: .int (vI i) :: .ref a :: st) := by
  obtain ⟨g, h⟩ := G_of h
  obtain ⟨h1, h2⟩ := vI_in g hn
  intro H locs ls hP hD hS hl
  refine va_iast C.1 C.2.1 C.2.2.2.2.2.2.1 hP hD hS q0 t0 ha ht h1 hd ?_
  rw [h2, iA_upd, hw]
  exact fun H1 locs1 hP hD hS => k _ h H1 locs1 ls hP hD hS hl
theorem nar_bool {x : Int} (h : x = 0 ∨ x = 1) : vp_nar .boolean (vI x) = vI x := by
  rcases h with rfl | rfl <;> decide
theorem nar_bool' {x : Int} (h : x = 0 ∨ x = 1) : narrow .boolean (.int (vI x)) = .int (vI x) := by
  rcases h with rfl | rfl <;> rfl
theorem j_zast (C : JC p s m args meth c cc nL own D tys A) {a : Nat} {cA : ClassId} {n : Nat} {f : Nat → Int} {i x : Int} {F : (Nat → Int) → Option ρ} (q0 t0 : Nat) (ha : ws[q0]? = some (a, .inl (cA, n, .inl (iA f)))) (ht : tys[t0]? = some (cA, .boolean)) (hn : n < 2147483648) (ws' : (Nat → Int) → va_W) (hw : ∀ f', ws.set q0 (a, .inl (cA, n, .inl (iA f'))) = ws' f') (h : G ((0 ≤ i ∧ i < n) ∧ (x = 0 ∨ x = 1)) (Bd (uI f i.toNat x) F) = some res) (hd : decode cc pc = .ok (.bastore, 1)) (k : ∀ f' : Nat → Int, F f' = some res → J p l e R s m args below meth c D A nL Q cells slots (ws' f') (pc + 1) lv st) : J p l e R s m args below meth c D A nL Q cells slots ws pc lv (.int (vI x) :: .int (vI i) :: .ref a :: st) := by
  obtain ⟨g, h⟩ := G_of h
  obtain ⟨h1, h2⟩ := vI_in g.1 hn
  intro H locs ls hP hD hS hl
  refine va_zast C.1 C.2.1 C.2.2.2.2.2.2.1 hP hD hS q0 t0 ha ht h1 hd ?_
  rw [h2, nar_bool g.2, iA_upd, hw]
  exact fun H1 locs1 hP hD hS => k _ h H1 locs1 ls hP hD hS hl
theorem j_last (C : JC p s m args meth c cc nL own D tys A) {a : Nat} {cA : ClassId} {n : Nat} {f : Nat → Int64} {i : Int} {x : Int64} {F : (Nat → Int64) → Option ρ} (q0 t0 : Nat) (ha : ws[q0]? = some (a, .inl (cA, n, .inr (.inl f)))) (ht : tys[t0]? = some (cA, .long)) (hn : n < 2147483648) (ws' : (Nat → Int64) → va_W) (hw : ∀ f', ws.set q0 (a, .inl (cA, n, .inr (.inl f'))) = ws' f') (h : G (0 ≤ i ∧ i < n) (Bd (uI f i.toNat x) F) = some res) (hd : decode cc pc = .ok (.lastore, 1)) (k : ∀ f' : Nat → Int64, F f' = some res → J p l e R s m args below meth c D A nL Q cells slots (ws' f') (pc + 1) lv st) : J p l e R s m args below meth c D A nL Q cells slots ws pc lv (.long x :: .int (vI i) :: .ref a :: st) := by
  obtain ⟨g, h⟩ := G_of h
  obtain ⟨h1, h2⟩ := vI_in g hn
  intro H locs ls hP hD hS hl
  refine va_last C.1 C.2.1 C.2.2.2.2.2.2.1 hP hD hS q0 t0 ha ht h1 hd ?_
  rw [h2, lA_upd, hw]
  exact fun H1 locs1 hP hD hS => k _ h H1 locs1 ls hP hD hS hl
theorem j_alen (C : JC p s m args meth c cc nL own D tys A) {a : Nat} {cA : ClassId} {x : vp_A} {ty : FieldType} (n : Int) (q0 t0 : Nat) (ha : ws[q0]? = some (a, .inl (cA, x))) (ht : tys[t0]? = some (cA, ty)) (hv : Int32.ofNat x.1 = vI n) (hd : decode cc pc = .ok (.arraylength, 1)) (k : J p l e R s m args below meth c D A nL Q cells slots ws (pc + 1) lv (.int (vI n) :: st)) : J p l e R s m args below meth c D A nL Q cells slots ws pc lv (.ref a :: st) :=
  fun H locs ls hP hD hS hl => va_alen C.1 C.2.1 C.2.2.2.2.2.2.1 hP q0 t0 ha ht hv hd (k H locs ls hP hD hS hl)
end JK
/-! worlds in pieces -/
theorem va_P_mem {D : va_G} {cl : List vw_C} {ws : va_W} {H : Heap} : va_P D cl ws H ↔ ∀ q ∈ ws, va_at D cl q H := by
  constructor
  · intro h q hq
    obtain ⟨k, hk⟩ := List.mem_iff_getElem?.mp hq
    exact h k q hk
  · intro h k q hk
    exact h q (List.mem_of_getElem? hk)
theorem va_D_fst {A : Nat → Prop} {ws ws' : va_W} (e : ws'.map Prod.fst = ws.map Prod.fst) (h : va_D A ws) : va_D A ws' := by
  have key : ∀ (k : Nat) (q : Nat × va_E), ws'[k]? = some q → ∃ q', ws[k]? = some q' ∧ q'.1 = q.1 := by
    intro k q hk
    have h1 : (ws'.map Prod.fst)[k]? = some q.1 := by rw [List.getElem?_map, hk]; rfl
    rw [e, List.getElem?_map] at h1
    cases hz : ws[k]? with
    | none => rw [hz] at h1; cases h1
    | some q' => rw [hz] at h1; exact ⟨q', rfl, Option.some.inj h1⟩
  refine ⟨fun i j p q hi hj e => ?_, fun k q hk => ?_⟩
  · obtain ⟨p', hp, ep⟩ := key i p hi
    obtain ⟨q', hq, eq⟩ := key j q hj
    exact h.1 i j p' q' hp hq (by rw [ep, eq, e])
  · obtain ⟨q', hq, eq⟩ := key k q hk
    rw [← eq]; exact h.2 k q' hq
theorem chunk_sub {D : va_G} {cl : List vw_C} {A : Nat → Prop} {u wc v : va_W} {H : Heap} (hP : va_P D cl (u ++ wc ++ v) H) (hD : va_D A (u ++ wc ++ v)) : va_P D cl wc H ∧ va_D A wc := by
  have key : ∀ (k : Nat) (q : Nat × va_E), wc[k]? = some q → (u ++ wc ++ v)[u.length + k]? = some q := by
    intro k q hk
    have hlt : k < wc.length := (List.getElem?_eq_some_iff.mp hk).1
    rw [List.append_assoc, List.getElem?_append_right (by omega), Nat.add_sub_cancel_left, List.getElem?_append_left hlt, hk]
  refine ⟨fun k q hk => hP _ q (key k q hk), fun i j p q hi hj e => ?_, fun k q hk => hD.2 _ q (key k q hk)⟩
  have := hD.1 _ _ p q (key i p hi) (key j q hj) e
  omega
theorem chunk_put {D : va_G} {cl : List vw_C} {A : Nat → Prop} {u wc wc' v : va_W} {H H1 : Heap} (hP : va_P D cl (u ++ wc ++ v) H) (hD : va_D A (u ++ wc ++ v)) (e : wc'.map Prod.fst = wc.map Prod.fst)
    (hk : ∀ q : Nat, q < H.size → ¬ va_A wc H.size q → H1[q]? = H[q]?) (hP1 : va_P D cl wc' H1) : va_P D cl (u ++ wc' ++ v) H1 ∧ va_D A (u ++ wc' ++ v) := by
  have kc : ∀ (k : Nat) (q : Nat × va_E), wc[k]? = some q → (u ++ wc ++ v)[u.length + k]? = some q := by
    intro k q hk
    have hlt : k < wc.length := (List.getElem?_eq_some_iff.mp hk).1
    rw [List.append_assoc, List.getElem?_append_right (by omega), Nat.add_sub_cancel_left, List.getElem?_append_left hlt, hk]
  have old : ∀ (i : Nat) (q : Nat × va_E), (u ++ wc ++ v)[i]? = some q → (i < u.length ∨ u.length + wc.length ≤ i) → H1[q.1]? = H[q.1]? := by
    intro i q hi ho
    refine hk q.1 ((hP i q hi).lt) ?_
    rintro (⟨k, e', h1⟩ | h1)
    · have hlt : k < wc.length := (List.getElem?_eq_some_iff.mp h1).1
      have := hD.1 i (u.length + k) q (q.1, e') hi (kc k _ h1) rfl
      omega
    · have := (hP i q hi).lt
      omega
  refine ⟨va_P_mem.mpr fun q hq => ?_, va_D_fst (by simp [e]) hD⟩
  rcases List.mem_append.mp hq with hq | hq
  · rcases List.mem_append.mp hq with hq | hq
    · obtain ⟨k, hk1⟩ := List.mem_iff_getElem?.mp hq
      have hlt : k < u.length := (List.getElem?_eq_some_iff.mp hk1).1
      have hi : (u ++ wc ++ v)[k]? = some q := by rw [List.append_assoc, List.getElem?_append_left hlt, hk1]
      exact (hP k q hi).kept (old k q hi (Or.inl hlt))
    · exact va_P_mem.mp hP1 q hq
  · obtain ⟨k, hk1⟩ := List.mem_iff_getElem?.mp hq
    have hi : (u ++ wc ++ v)[(u ++ wc).length + k]? = some q := by rw [List.getElem?_append_right (by omega), Nat.add_sub_cancel_left, hk1]
    exact (hP _ q hi).kept (old _ q hi (Or.inr (by rw [List.length_append]; omega)))
/-! contracts: from the world ws the method answers ret and leaves the world ws' -/
def Kt (l : Launch) (y : MethodName) (cc : ByteArray) (nL : Nat) (rt : Option FieldType) (rm : Room) (D : va_G) (tys : List (ClassId × FieldType)) (As : List Value) (ws ws' : va_W) (ret : Option Value) : Prop :=
  ∀ sz : Nat, Met l y (Cond.code y cc nL rt :: ALLW) rm (va_Pc As (fun U => U.heap.size = sz ∧ va_P D vwCl ws U.heap ∧ va_K D vwCl tys U ∧ NWs U ∧ va_D (fun _ => True) ws)) (fun _ st o t => (o = .returned ret ∧ va_P D vwCl ws' t.heap) ∧ va_F (va_A ws sz) st t) 0 0 (va_A ws sz)
section KT
variable {l : Launch} {y : MethodName} {cc : ByteArray} {nL : Nat} {rt : Option FieldType} {rm : Room} {D : va_G} {tys : List (ClassId × FieldType)} {As : List Value} {ws ws' : va_W}
theorem kt_i {v : Int32} {ty : FieldType} (hrt : rt = some ty) (hn : narrow ty (.int v) = .int v) (hy : plainName y.cls = true) (hlen : (lg_sl As).length ≤ nL)
    (body : ∀ {p : Program} {e : Env} {s : State} {m : MethodId} {args : Array Value} {below : List Frame} {meth : Method} {c : Code} {A : Nat → Prop} {Q : State → Prop}, JC p s m args meth c cc nL y.cls D tys A → (∀ (pc : Nat) (lv : List (Nat × Value)), decode cc pc = .ok (.ireturn, 1) → J p l e rm s m args below meth c D A nL Q 0 0 ws' pc lv [.int v]) → J p l e rm s m args below meth c D A nL Q 0 0 ws 0 (lv_args 0 As) []) :
    Kt l y cc nL rt rm D tys As ws ws' (some (.int v)) := by
  intro sz
  refine Met.ofW (cc := cc) (maxL := nL) (ret := rt) hy rfl ?_
  intro p e s m args below meth c s₁ B hml hv
  obtain ⟨rfl, hsz, hP, hK, hN, hD0⟩ := hv
  have hts := atoms_spec (ws := Cond.code y cc nL rt :: ALLW) B.pre
  subst hsz
  have hD := hD0.self (sz := s.heap.size)
  have C : JC p s m As.toArray meth c cc nL y.cls D tys (va_A ws s.heap.size) := ⟨B.exec, B.bytes, hml, findClass_of_methodNamed B.named, fun w h => hts w (List.mem_cons_of_mem _ h), B.notSynchronized, hK, fun q h => Or.inr h, hN⟩
  have hl := lv_entry As (n := nL) hlen
  rw [lg_entry_eq]
  refine body C (fun pc lv hd => ?_) s.heap [] _ hP hD va_S.rf hl
  intro H locs ls hP hD hS hl
  exact W.zret (ty := ty) C.1 C.2.1 (B.returns.trans hrt) hn (fun t ht hW => ⟨⟨rfl, by rw [ht]; exact hP⟩, hS.F ht⟩) hS.2.2 hd C.2.2.2.2.2.1
theorem kt_z {z : Int} (hrt : rt = some .boolean) (hy : plainName y.cls = true) (hlen : (lg_sl As).length ≤ nL)
    (body : ∀ {p : Program} {e : Env} {s : State} {m : MethodId} {args : Array Value} {below : List Frame} {meth : Method} {c : Code} {A : Nat → Prop} {Q : State → Prop}, JC p s m args meth c cc nL y.cls D tys A → (∀ (pc : Nat) (lv : List (Nat × Value)), (z = 0 ∨ z = 1) → decode cc pc = .ok (.ireturn, 1) → J p l e rm s m args below meth c D A nL Q 0 0 ws' pc lv [.int (vI z)]) → J p l e rm s m args below meth c D A nL Q 0 0 ws 0 (lv_args 0 As) []) :
    Kt l y cc nL rt rm D tys As ws ws' (some (.int (vI z))) := by
  intro sz
  refine Met.ofW (cc := cc) (maxL := nL) (ret := rt) hy rfl ?_
  intro p e s m args below meth c s₁ B hml hv
  obtain ⟨rfl, hsz, hP, hK, hN, hD0⟩ := hv
  have hts := atoms_spec (ws := Cond.code y cc nL rt :: ALLW) B.pre
  subst hsz
  have hD := hD0.self (sz := s.heap.size)
  have C : JC p s m As.toArray meth c cc nL y.cls D tys (va_A ws s.heap.size) := ⟨B.exec, B.bytes, hml, findClass_of_methodNamed B.named, fun w h => hts w (List.mem_cons_of_mem _ h), B.notSynchronized, hK, fun q h => Or.inr h, hN⟩
  have hl := lv_entry As (n := nL) hlen
  rw [lg_entry_eq]
  refine body C (fun pc lv hz hd => ?_) s.heap [] _ hP hD va_S.rf hl
  intro H locs ls hP hD hS hl
  exact W.zret (ty := .boolean) C.1 C.2.1 (B.returns.trans hrt) (nar_bool' hz) (fun t ht hW => ⟨⟨rfl, by rw [ht]; exact hP⟩, hS.F ht⟩) hS.2.2 hd C.2.2.2.2.2.1
theorem kt_l {v : Int64} (hrt : rt = some .long) (hy : plainName y.cls = true) (hlen : (lg_sl As).length ≤ nL)
    (body : ∀ {p : Program} {e : Env} {s : State} {m : MethodId} {args : Array Value} {below : List Frame} {meth : Method} {c : Code} {A : Nat → Prop} {Q : State → Prop}, JC p s m args meth c cc nL y.cls D tys A → (∀ (pc : Nat) (lv : List (Nat × Value)), decode cc pc = .ok (.lreturn, 1) → J p l e rm s m args below meth c D A nL Q 0 0 ws' pc lv [.long v]) → J p l e rm s m args below meth c D A nL Q 0 0 ws 0 (lv_args 0 As) []) :
    Kt l y cc nL rt rm D tys As ws ws' (some (.long v)) := by
  intro sz
  refine Met.ofW (cc := cc) (maxL := nL) (ret := rt) hy rfl ?_
  intro p e s m args below meth c s₁ B hml hv
  obtain ⟨rfl, hsz, hP, hK, hN, hD0⟩ := hv
  have hts := atoms_spec (ws := Cond.code y cc nL rt :: ALLW) B.pre
  subst hsz
  have hD := hD0.self (sz := s.heap.size)
  have C : JC p s m As.toArray meth c cc nL y.cls D tys (va_A ws s.heap.size) := ⟨B.exec, B.bytes, hml, findClass_of_methodNamed B.named, fun w h => hts w (List.mem_cons_of_mem _ h), B.notSynchronized, hK, fun q h => Or.inr h, hN⟩
  have hl := lv_entry As (n := nL) hlen
  rw [lg_entry_eq]
  refine body C (fun pc lv hd => ?_) s.heap [] _ hP hD va_S.rf hl
  intro H locs ls hP hD hS hl
  exact W.lret C.1 C.2.1 (B.returns.trans hrt) (fun t ht hW => ⟨⟨rfl, by rw [ht]; exact hP⟩, hS.F ht⟩) hS.2.2 hd C.2.2.2.2.2.1
theorem kt_v (hrt : rt = none) (hy : plainName y.cls = true) (hlen : (lg_sl As).length ≤ nL)
    (body : ∀ {p : Program} {e : Env} {s : State} {m : MethodId} {args : Array Value} {below : List Frame} {meth : Method} {c : Code} {A : Nat → Prop} {Q : State → Prop}, JC p s m args meth c cc nL y.cls D tys A → (∀ (pc : Nat) (lv : List (Nat × Value)), decode cc pc = .ok (.return_, 1) → J p l e rm s m args below meth c D A nL Q 0 0 ws' pc lv []) → J p l e rm s m args below meth c D A nL Q 0 0 ws 0 (lv_args 0 As) []) :
    Kt l y cc nL rt rm D tys As ws ws' none := by
  intro sz
  refine Met.ofW (cc := cc) (maxL := nL) (ret := rt) hy rfl ?_
  intro p e s m args below meth c s₁ B hml hv
  obtain ⟨rfl, hsz, hP, hK, hN, hD0⟩ := hv
  have hts := atoms_spec (ws := Cond.code y cc nL rt :: ALLW) B.pre
  subst hsz
  have hD := hD0.self (sz := s.heap.size)
  have C : JC p s m As.toArray meth c cc nL y.cls D tys (va_A ws s.heap.size) := ⟨B.exec, B.bytes, hml, findClass_of_methodNamed B.named, fun w h => hts w (List.mem_cons_of_mem _ h), B.notSynchronized, hK, fun q h => Or.inr h, hN⟩
  have hl := lv_entry As (n := nL) hlen
  rw [lg_entry_eq]
  refine body C (fun pc lv hd => ?_) s.heap [] _ hP hD va_S.rf hl
  intro H locs ls hP hD hS hl
  exact W.vret C.1 C.2.1 (B.returns.trans hrt) (fun t ht hW => ⟨⟨rfl, by rw [ht]; exact hP⟩, hS.F ht⟩) hS.2.2 hd C.2.2.2.2.2.1
end KT
/-! calls -/
theorem kt_blind {As : List Value} {sz : Nat} {D : va_G} {ws : va_W} {tys : List (ClassId × FieldType)} : FrameBlind (va_Pc As (fun U => U.heap.size = sz ∧ va_P D vwCl ws U.heap ∧ va_K D vwCl tys U ∧ NWs U ∧ va_D (fun _ => True) ws)) := by
  intro a U g mk q
  obtain ⟨q0, q1, qP, qK, qN, qD⟩ := q
  exact ⟨q0, q1, qP, va_K.moved (u := U) (U := U.calling g mk a) (Vm.Alike.refl U.vm) qK, NWs.same (u := U) (U := U.calling g mk a) rfl qN, qD⟩
section CALLS
variable {p : Program} {l : Launch} {e : Env} {R : Room} {s : State} {m : MethodId} {args : Array Value} {below : List Frame} {meth : Method} {c : Code} {cc : ByteArray} {nL : Nat} {own : String} {D : va_G} {tys tys' : List (ClassId × FieldType)} {A : Nat → Prop} {Q : State → Prop} {cells slots : Nat} {ws ws1 u wc wc' v : va_W} {pc idx n : Nat} {lv : List (Nat × Value)} {st st0 st1 : List Value}
variable {y : MethodName} {ccY : ByteArray} {nY : Nat} {rtY : Option FieldType} {rmY : Room} {As : List Value} {ret : Option Value} {b : Nat}
/-- behind any call that has run by its contract -/
theorem j_back {H : Heap} {locs : List Loc} {ls : Array Slot} (C : JC p s m args meth c cc nL own D tys A) (hP : va_P D vwCl (u ++ wc ++ v) H) (hD : va_D A (u ++ wc ++ v)) (hS : va_S A s.heap H locs) (hl : lv_has ls nL lv) (ha : wc'.map Prod.fst = wc.map Prod.fst) (hst1 : ret.toList ++ st = st1)
    (run : va_Run p l e R s m args below meth c H locs cells slots 0 0 (F0 m pc ls st0) st (fun st o t => (o = .returned ret ∧ va_P D vwCl wc' t.heap) ∧ va_F (va_A wc H.size) st t) (va_A wc H.size)) (k : J p l e R s m args below meth c D A nL Q cells slots (u ++ wc' ++ v) (pc + 3) lv st1) : W p l e R s m args below meth c H locs cells slots Q (F0 m pc ls st0) := by
  have hFc : ∀ q, va_A wc H.size q → A q := by
    rintro q (⟨k, e', h1⟩ | h1)
    · exact (chunk_sub hP hD).2.2 k _ h1
    · exact C.2.2.2.2.2.2.2.1 q (Nat.le_trans hS.1 h1)
  intro T hT X
  obtain ⟨r, st₀, t, T', L, h0, X', hL, e1, e2, ⟨⟨hv, hPt⟩, hF⟩, go⟩ := run T hT X
  cases hv
  obtain ⟨hz, hk⟩ := hF
  rw [h0] at hz hk
  rw [← e1] at hz hPt
  have hk' : ∀ q : Nat, q < H.size → ¬ va_A wc H.size q → T'.heap[q]? = H[q]? := fun q h1 h2 => by rw [e1]; exact hk q h1 h2
  obtain ⟨hP2, hD2⟩ := chunk_put hP hD ha hk' hPt
  have hS2 : va_S A s.heap T'.heap (locs ++ L) := ⟨Nat.le_trans hS.1 hz, fun q h1 h2 => by rw [hk' q (Nat.lt_of_lt_of_le h1 hS.1) (fun z => h2 (hFc q z))]; exact hS.2.1 q h1 h2, fun q hq => by
    rcases List.mem_append.mp hq with h | h
    · exact hS.2.2 q h
    · exact hFc _ (hL q h)⟩
  obtain ⟨t2, a1, b1⟩ := k T'.heap (locs ++ L) ls hP2 hD2 hS2 hl T' rfl X'
  refine ⟨t2, go t2 ?_, b1⟩
  rw [← hst1] at a1
  exact a1
theorem j_callV (C : JC p s m args meth c cc nL own D tys A) (hM : Kt l y ccY nY rtY rmY D tys' (.ref b :: As) wc wc' ret) (hlink : Cond.methodLink own idx y ∈ ALLW) (hinst : Cond.instanceMethod y ∈ ALLW) (hsel : Cond.selects y.cls y y ∈ ALLW) (hini : Cond.initialized y.cls ∈ ALLW) (hcode : Cond.code y ccY nY rtY ∈ ALLW)
    (hnm : y.cls = y.cls ∧ y.cls ≠ "java/lang/invoke/MethodHandle" ∧ y.cls ≠ "java/lang/invoke/VarHandle" ∧ (parseMethodDescriptor y.desc).map (fun d => d.parameters.length) = some n) (hR : rmY.frames + 1 ≤ R.frames ∧ 8 + (nY + 11) + rmY.locals ≤ R.locals) (hc0 : rmY.cells = 0) (hs0 : rmY.slots = 0)
    (q0 ci : Nat) {fs : List Value} {cq : vw_C} (he : wc[q0]? = some (b, .inr (ci, fs))) (hci : vwCl[ci]? = some cq) (hcq : cq.1 = y.cls) (hn : As.length = n) (hw : u ++ wc ++ v = ws) (hw1 : u ++ wc' ++ v = ws1) (ha : wc'.map Prod.fst = wc.map Prod.fst) (hK' : va_K D vwCl tys' s)
    (hroom : (st.map fun v => v.category).sum ≤ 8) (hst0 : As.reverse ++ .ref b :: st = st0) (hst1 : ret.toList ++ st = st1) (hcell : cells ≤ R.cells) (hslot : slots ≤ R.slots) (hd : decode cc pc = .ok (.invokevirtual idx, 3)) (k : J p l e R s m args below meth c D A nL Q cells slots ws1 (pc + 3) lv st1) : J p l e R s m args below meth c D A nL Q cells slots ws pc lv st0 := by
  subst hw
  subst hw1
  intro H locs ls hP hD hS hl
  obtain ⟨hPc, hDc⟩ := chunk_sub hP hD
  have hg : GoodIn ALLW (wsV own idx y.cls y (Cond.code y ccY nY rtY :: ALLW)) := fun w h => by
    rcases List.mem_append.mp h with h | h
    · simp only [List.mem_cons, List.not_mem_nil, or_false] at h
      rcases h with rfl | rfl | rfl | rfl
      · exact ALLW_self _ hlink
      · exact ALLW_self _ hinst
      · exact ALLW_self _ hsel
      · exact ALLW_self _ hini
    · exact gi_cons hcode ALLW_self w h
  refine j_back (st := st) C hP hD hS hl ha hst1 ?_ k
  refine va_runV (As := As) (b := b) (C := y.cls) (bytes := ccY) (maxL := nY) (ret := rtY) (nL := nL) ⟨C.1, C.2.1, C.2.2.1, C.2.2.2.1, C.2.2.2.2.1⟩ (hM H.size) (cwV n C.2.2.2.2.1 hg rfl hc0 hs0 hnm hR) ⟨kt_blind, ?_, fun U hU hW => ⟨rfl, by rw [hU], by rw [hU]; exact hPc, va_K.moved hW.alike hK', NWs.moved hW C.2.2.2.2.2.2.2.2, hDc.weaken (fun _ _ _ _ => trivial)⟩⟩ rfl hn hl.1 hst0.symm (lv_room hroom) hd ⟨hcell, hslot⟩
  rw [← hcq]
  exact va_recv C.2.2.2.2.2.2.1 hPc hci he
theorem j_callVN {host : String} (C : JC p s m args meth c cc nL own D tys A) (hM : Kt l y ccY nY rtY rmY D tys' (.ref b :: As) wc wc' ret) (hlink : Cond.methodLinkNest own idx y host ∈ NW) (hinst : Cond.instanceMethod y ∈ ALLW) (hsel : Cond.selects y.cls y y ∈ ALLW) (hini : Cond.initialized y.cls ∈ ALLW) (hcode : Cond.code y ccY nY rtY ∈ ALLW)
    (hnm : y.cls = y.cls ∧ y.cls ≠ "java/lang/invoke/MethodHandle" ∧ y.cls ≠ "java/lang/invoke/VarHandle" ∧ (parseMethodDescriptor y.desc).map (fun d => d.parameters.length) = some n) (hR : rmY.frames + 1 ≤ R.frames ∧ 8 + (nY + 11) + rmY.locals ≤ R.locals) (hc0 : rmY.cells = 0) (hs0 : rmY.slots = 0)
    (q0 ci : Nat) {fs : List Value} {cq : vw_C} (he : wc[q0]? = some (b, .inr (ci, fs))) (hci : vwCl[ci]? = some cq) (hcq : cq.1 = y.cls) (hn : As.length = n) (hw : u ++ wc ++ v = ws) (hw1 : u ++ wc' ++ v = ws1) (ha : wc'.map Prod.fst = wc.map Prod.fst) (hK' : va_K D vwCl tys' s)
    (hroom : (st.map fun v => v.category).sum ≤ 8) (hst0 : As.reverse ++ .ref b :: st = st0) (hst1 : ret.toList ++ st = st1) (hcell : cells ≤ R.cells) (hslot : slots ≤ R.slots) (hd : decode cc pc = .ok (.invokevirtual idx, 3)) (k : J p l e R s m args below meth c D A nL Q cells slots ws1 (pc + 3) lv st1) : J p l e R s m args below meth c D A nL Q cells slots ws pc lv st0 := by
  subst hw
  subst hw1
  intro H locs ls hP hD hS hl
  obtain ⟨hPc, hDc⟩ := chunk_sub hP hD
  refine j_back (st := st) C hP hD hS hl ha hst1 ?_ k
  refine va_runVN (As := As) (b := b) (C := y.cls) (bytes := ccY) (maxL := nY) (ret := rtY) (nL := nL) ⟨C.1, C.2.1, C.2.2.1, C.2.2.2.1, C.2.2.2.2.1⟩ (hM H.size) ⟨va_cnB n C.2.2.2.2.1 (gi_cons hcode ALLW_self) rfl hc0 hs0 (C.2.2.2.2.2.2.2.2 _ hlink) (C.2.2.2.2.1 _ hini) hnm.2 hR, C.2.2.2.2.1 _ hinst, C.2.2.2.2.1 _ hsel⟩ ⟨kt_blind, ?_, fun U hU hW => ⟨rfl, by rw [hU], by rw [hU]; exact hPc, va_K.moved hW.alike hK', NWs.moved hW C.2.2.2.2.2.2.2.2, hDc.weaken (fun _ _ _ _ => trivial)⟩⟩ rfl hn hl.1 hst0.symm (lv_room hroom) hd ⟨hcell, hslot⟩
  rw [← hcq]
  exact va_recv C.2.2.2.2.2.2.1 hPc hci he
theorem j_callS (C : JC p s m args meth c cc nL own D tys A) (hM : Kt l y ccY nY rtY rmY D tys' As wc wc' ret) (hlink : Cond.methodLink own idx y ∈ ALLW) (hstat : Cond.static y ∈ ALLW) (hini : Cond.initialized y.cls ∈ ALLW) (hcode : Cond.code y ccY nY rtY ∈ ALLW)
    (hnm : y.cls ≠ "java/lang/invoke/MethodHandle" ∧ y.cls ≠ "java/lang/invoke/VarHandle" ∧ (parseMethodDescriptor y.desc).map (fun d => d.parameters.length) = some n) (hR : rmY.frames + 1 ≤ R.frames ∧ 8 + (nY + 11) + rmY.locals ≤ R.locals) (hc0 : rmY.cells = 0) (hs0 : rmY.slots = 0)
    (hn : As.length = n) (hw : u ++ wc ++ v = ws) (hw1 : u ++ wc' ++ v = ws1) (ha : wc'.map Prod.fst = wc.map Prod.fst) (hK' : va_K D vwCl tys' s)
    (hroom : (st.map fun v => v.category).sum ≤ 8) (hst0 : As.reverse ++ st = st0) (hst1 : ret.toList ++ st = st1) (hcell : cells ≤ R.cells) (hslot : slots ≤ R.slots) (hd : decode cc pc = .ok (.invokestatic idx, 3)) (k : J p l e R s m args below meth c D A nL Q cells slots ws1 (pc + 3) lv st1) : J p l e R s m args below meth c D A nL Q cells slots ws pc lv st0 := by
  subst hw
  subst hw1
  intro H locs ls hP hD hS hl
  obtain ⟨hPc, hDc⟩ := chunk_sub hP hD
  refine j_back (st := st) C hP hD hS hl ha hst1 ?_ k
  exact va_runS (As := As) (bytes := ccY) (maxL := nY) (ret := rtY) (nL := nL) ⟨C.1, C.2.1, C.2.2.1, C.2.2.2.1, C.2.2.2.2.1⟩ (hM H.size) ⟨callB_of n C.2.2.2.2.1 (gi_cons hcode ALLW_self) rfl hc0 hs0 (C.2.2.2.2.1 _ hini) (C.2.2.2.2.1 _ hlink) hnm hR, C.2.2.2.2.1 _ hstat⟩ ⟨kt_blind, fun U hU hW => ⟨rfl, by rw [hU], by rw [hU]; exact hPc, va_K.moved hW.alike hK', NWs.moved hW C.2.2.2.2.2.2.2.2, hDc.weaken (fun _ _ _ _ => trivial)⟩⟩ rfl hn hl.1 hst0.symm (lv_room hroom) hd ⟨hcell, hslot⟩
theorem j_callSN {host : String} (C : JC p s m args meth c cc nL own D tys A) (hM : Kt l y ccY nY rtY rmY D tys' As wc wc' ret) (hlink : Cond.methodLinkNest own idx y host ∈ NW) (hstat : Cond.static y ∈ ALLW) (hini : Cond.initialized y.cls ∈ ALLW) (hcode : Cond.code y ccY nY rtY ∈ ALLW)
    (hnm : y.cls ≠ "java/lang/invoke/MethodHandle" ∧ y.cls ≠ "java/lang/invoke/VarHandle" ∧ (parseMethodDescriptor y.desc).map (fun d => d.parameters.length) = some n) (hR : rmY.frames + 1 ≤ R.frames ∧ 8 + (nY + 11) + rmY.locals ≤ R.locals) (hc0 : rmY.cells = 0) (hs0 : rmY.slots = 0)
    (hn : As.length = n) (hw : u ++ wc ++ v = ws) (hw1 : u ++ wc' ++ v = ws1) (ha : wc'.map Prod.fst = wc.map Prod.fst) (hK' : va_K D vwCl tys' s)
    (hroom : (st.map fun v => v.category).sum ≤ 8) (hst0 : As.reverse ++ st = st0) (hst1 : ret.toList ++ st = st1) (hcell : cells ≤ R.cells) (hslot : slots ≤ R.slots) (hd : decode cc pc = .ok (.invokestatic idx, 3)) (k : J p l e R s m args below meth c D A nL Q cells slots ws1 (pc + 3) lv st1) : J p l e R s m args below meth c D A nL Q cells slots ws pc lv st0 := by
  subst hw
  subst hw1
  intro H locs ls hP hD hS hl
  obtain ⟨hPc, hDc⟩ := chunk_sub hP hD
  refine j_back (st := st) C hP hD hS hl ha hst1 ?_ k
  exact va_runSN (As := As) (bytes := ccY) (maxL := nY) (ret := rtY) (nL := nL) ⟨C.1, C.2.1, C.2.2.1, C.2.2.2.1, C.2.2.2.2.1⟩ (hM H.size) ⟨va_cnB n C.2.2.2.2.1 (gi_cons hcode ALLW_self) rfl hc0 hs0 (C.2.2.2.2.2.2.2.2 _ hlink) (C.2.2.2.2.1 _ hini) hnm hR, C.2.2.2.2.1 _ hstat, trivial⟩ ⟨kt_blind, fun U hU hW => ⟨rfl, by rw [hU], by rw [hU]; exact hPc, va_K.moved hW.alike hK', NWs.moved hW C.2.2.2.2.2.2.2.2, hDc.weaken (fun _ _ _ _ => trivial)⟩⟩ rfl hn hl.1 hst0.symm (lv_room hroom) hd ⟨hcell, hslot⟩
end CALLS
theorem ww (w : va_W) : [] ++ w ++ [] = w := by simp
