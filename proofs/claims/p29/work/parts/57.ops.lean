/-! calls that read the graph -/
theorem needPlace_ok {x P : Int} (hx : inR x) (hP : 0 ≤ P ∧ P ≤ 6) : F_X5_needPlace x P = some (if 0 ≤ x ∧ x < P then 0 else 3) := by
  unfold F_X5_needPlace F_X5_needPlace_b15
  refine G_i hx ?_
  by_cases c : x < 0
  · refine if_i c ?_
    rw [if_neg (by omega)]
  · refine el_i c (G_i ⟨hx, by omega⟩ ?_)
    by_cases d : x < P
    · refine if_i d ?_
      rw [if_pos (by omega)]
    · refine el_i d ?_
      rw [if_neg (by omega)]
/-- the class's kept graph: of the state that it names -/
def RS (P F : Int) (tok w : Nat → Int) (st rs n pairs ends tg : Int) (found : Nat → Int64) (slots de fb ta la ne : Nat → Int) : Prop :=
  (-1 ≤ rs ∧ rs ≤ st) ∧ (rs = st → GR P F tok w n pairs ends tg found slots de fb ta la ne)
theorem op_most {P F st rs n pairs ends tg x th : Int} {tok w : Nat → Int} {need bo em tak gi found : Nat → Int64} {slots de fb ta la ne mk wh by_ ld : Nat → Int} (hp : packed F w need bo em tak gi) (hw : wOk w) (ho : wOut P w) (hP : 0 ≤ P ∧ P ≤ 6) (hF : 0 ≤ F ∧ F ≤ 8) (ht : tOk P (tk tok)) (hst : 0 ≤ st ∧ st < 1000000) (hx : inR x) (hR : RS P F tok w st rs n pairs ends tg found slots de fb ta la ne) :
    ∃ rx rm, F_X5_most x P F (pk (cut P (tk tok))) st need bo em tak gi rs n pairs ends tg found slots de fb ta la ne = some rx ∧ F_X6_most x P F tok w th mk wh by_ ld = some rm ∧ RS P F tok w st rx.2.2.1 rx.2.2.2.1 rx.2.2.2.2.1 rx.2.2.2.2.2.1 rx.2.2.2.2.2.2.1 rx.2.2.2.2.2.2.2.1 rx.2.2.2.2.2.2.2.2.1 rx.2.2.2.2.2.2.2.2.2.1 rx.2.2.2.2.2.2.2.2.2.2.1 rx.2.2.2.2.2.2.2.2.2.2.2.1 rx.2.2.2.2.2.2.2.2.2.2.2.2.1 rx.2.2.2.2.2.2.2.2.2.2.2.2.2 ∧ ((rx.1 = 0 ∧ rm.2.1 = 0 ∧ rx.2.1 = rm.1 ∧ inR rx.2.1) ∨ (rx.1 = 3 ∧ rm.2.1 = 1)) := by
  obtain ⟨rp, p1, p2⟩ := isPlace_ok hx hP
  by_cases c : 0 ≤ x ∧ x < P
  · have hrp : rp = 1 := by
      rcases p2 with q | q
      · exact q.1
      · exact absurd c q.2
    obtain ⟨r3, g1, g2, g3⟩ := refresh_ok (st := st) (rs := rs) (n := n) (pairs := pairs) (ends := ends) (tg := tg) (found := found) (slots := slots) (de := de) (fb := fb) (ta := ta) (la := la) (ne := ne) hp hw ho hP hF ht (by have := hR.1; omega) (by omega) hR.2
    obtain ⟨q, k1, k2⟩ := g3 mk wh by_ ld
    obtain ⟨rs', n', pa', en', tg', fo', sl', de', fb', ta', la', ne'⟩ := r3
    obtain ⟨qn, qm, qw, qb, ql⟩ := q
    dsimp only at g2 g3 k2
    have hRS : RS P F tok w st rs' n' pa' en' tg' fo' sl' de' fb' ta' la' ne' := ⟨by omega, fun _ => g3⟩
    have model : ∀ v : Int, F_X6_mostOf x qn qm = some v → F_X6_most x P F tok w th mk wh by_ ld = some (v, 0, qm, qw, qb, ql) := fun v hv => by
      unfold F_X6_most F_X6_most_b14
      exact Ob_i p1 (G_i (by omega) (el_i (by omega) (Ob_i goesWell_0 (G_i (by omega) (el_i (by omega) (Ob_i k1 (Ob_i hv rfl)))))))
    have cls : ∀ v : Int, (tg' = 0 ∧ F_X1_mostAt x n' fo' = some v) ∨ (tg' = 1 ∧ v = -1) → F_X5_most x P F (pk (cut P (tk tok))) st need bo em tak gi rs n pairs ends tg found slots de fb ta la ne = some (0, v, rs', n', pa', en', tg', fo', sl', de', fb', ta', la', ne') := fun v hv => by
      unfold F_X5_most
      refine Ob_i (needPlace_ok hx hP) (if_i (if_pos c) (Ob_i g1 (G_i (by dsimp only; rcases hv with q | q <;> omega) ?_)))
      rcases hv with ⟨v1, v2⟩ | ⟨v1, v2⟩
      · exact if_i v1 (Ob_i v2 rfl)
      · subst v2
        exact el_i (by dsimp only; omega) rfl
    rcases k2 with ⟨a1, a2⟩ | ⟨a1, a2, a3, -⟩
    · dsimp only at a2
      have hm : F_X6_mostOf x qn qm = some (-1) := by
        rw [a2]
        unfold F_X6_mostOf
        have hN : ∃ k, NN = k + 1 := ⟨NN - 1, by have := NN_gt (z := 1) (by omega); omega⟩
        obtain ⟨k, hk⟩ := hN
        rw [hk]
        show F_X6_mostOf_b5_body qm (F_X6_mostOf_b5 qm k) x (-1) (-1) 0 = _
        unfold F_X6_mostOf_b5_body
        exact G_i (by omega) (if_i (by omega) rfl)
      exact ⟨_, _, cls (-1) (Or.inr ⟨a1, rfl⟩), model _ hm, hRS, Or.inl ⟨rfl, rfl, rfl, by dsimp only; omega⟩⟩
    · dsimp only at a2 a3
      obtain ⟨hn, hH, hN, hE, -⟩ := a3
      obtain ⟨v, v1, v2, v3⟩ := mostAt_ok hN hn hP.2 c
      subst a2
      exact ⟨_, _, cls v (Or.inl ⟨a1, v1⟩), model v v2, hRS, Or.inl ⟨rfl, rfl, rfl, by dsimp only; omega⟩⟩
  · have hrp : rp = 0 := by
      rcases p2 with q | q
      · exact absurd q.2 c
      · exact q.1
    refine ⟨(3, 0, rs, n, pairs, ends, tg, found, slots, de, fb, ta, la, ne), (0, 1, mk, wh, by_, ld), ?_, ?_, hR, Or.inr ⟨rfl, rfl⟩⟩
    · unfold F_X5_most
      refine Ob_i (needPlace_ok hx hP) ?_
      rw [if_neg c]
      exact el_i (by omega) rfl
    · unfold F_X6_most F_X6_most_b14
      exact Ob_i p1 (G_i (by omega) (if_i hrp (Ob_i (goesWell_n (by omega) (by omega)) (G_i (by omega) (if_i rfl rfl)))))
