theorem op_marking {P F st rs n pairs ends tg x p th : Int} {tok w : Nat → Int} {need bo em tak gi found : Nat → Int64} {slots de fb ta la ne mk wh by_ ld : Nat → Int} (hp : packed F w need bo em tak gi) (hw : wOk w) (ho : wOut P w) (hP : 0 ≤ P ∧ P ≤ 6) (hF : 0 ≤ F ∧ F ≤ 8) (ht : tOk P (tk tok)) (hst : 0 ≤ st ∧ st < 1000000) (hx : inR x) (hq : inR p) (hR : RS P F tok w st rs n pairs ends tg found slots de fb ta la ne) :
    ∃ rx rm, F_X5_marking x p P F (pk (cut P (tk tok))) st need bo em tak gi rs n pairs ends tg found slots de fb ta la ne = some rx ∧ F_X6_marking x p P F tok w th mk wh by_ ld = some rm ∧ RS P F tok w st rx.2.2.1 rx.2.2.2.1 rx.2.2.2.2.1 rx.2.2.2.2.2.1 rx.2.2.2.2.2.2.1 rx.2.2.2.2.2.2.2.1 rx.2.2.2.2.2.2.2.2.1 rx.2.2.2.2.2.2.2.2.2.1 rx.2.2.2.2.2.2.2.2.2.2.1 rx.2.2.2.2.2.2.2.2.2.2.2.1 rx.2.2.2.2.2.2.2.2.2.2.2.2.1 rx.2.2.2.2.2.2.2.2.2.2.2.2.2 ∧ ((rx.1 = 0 ∧ rm.2.1 = 0 ∧ rx.2.1 = rm.1 ∧ inR rx.2.1) ∨ (rx.1 = 3 ∧ rm.2.1 = 1) ∨ (rx.1 = 1 ∧ rm.2.1 = 2)) := by
  obtain ⟨rp, p1, p2⟩ := isPlace_ok hq hP
  by_cases c : 0 ≤ p ∧ p < P
  · have hrp : rp = 1 := by
      rcases p2 with q | q
      · exact q.1
      · exact absurd c q.2
    by_cases d : 0 ≤ x
    · obtain ⟨r3, g1, g2, g3⟩ := refresh_ok (st := st) (rs := rs) (n := n) (pairs := pairs) (ends := ends) (tg := tg) (found := found) (slots := slots) (de := de) (fb := fb) (ta := ta) (la := la) (ne := ne) hp hw ho hP hF ht (by have := hR.1; omega) (by omega) hR.2
      obtain ⟨q, k1, k2⟩ := g3 mk wh by_ ld
      obtain ⟨rs', n', pa', en', tg', fo', sl', de', fb', ta', la', ne'⟩ := r3
      obtain ⟨qn, qm, qw, qb, ql⟩ := q
      dsimp only at g2 g3 k2
      have hRS : RS P F tok w st rs' n' pa' en' tg' fo' sl' de' fb' ta' la' ne' := ⟨by omega, fun _ => g3⟩
      have model : ∀ v : Int, inR qn → ((qn ≤ x ∧ v = -1) ∨ (x < qn ∧ qn ≤ 300 ∧ row qm x p = v)) → F_X6_marking x p P F tok w th mk wh by_ ld = some (v, 0, qm, qw, qb, ql) := fun v hqn h => by
        unfold F_X6_marking F_X6_marking_b24
        refine Ob_i p1 (G_i (by omega) (el_i (by omega) (G_i hx (el_i (by omega) (Ob_i goesWell_0 (G_i (by omega) (el_i (by omega) (Ob_i k1 (G_i ⟨hx, hqn⟩ ?_)))))))))
        rcases h with ⟨h1, h2⟩ | ⟨h1, h2, h3⟩
        · subst h2
          exact if_i h1 rfl
        · refine el_i (by dsimp only; omega) (Bd_i (G_i (by omega) (Bd_i ?_)))
          rw [← h3]
          rfl
      have cls : ∀ v : Int, (tg' = 0 ∧ inR n' ∧ ((n' ≤ x ∧ v = -1) ∨ (x < n' ∧ F_X1_tokensAt x p n' fo' = some v))) ∨ (tg' = 1 ∧ v = -1) → F_X5_marking x p P F (pk (cut P (tk tok))) st need bo em tak gi rs n pairs ends tg found slots de fb ta la ne = some (0, v, rs', n', pa', en', tg', fo', sl', de', fb', ta', la', ne') := fun v hv => by
        unfold F_X5_marking F_X5_marking_b47
        refine Ob_i (needPlace_ok hq hP) (if_i (if_pos c) (G_i hx (if_i d (Ob_i g1 (G_i (by dsimp only; rcases hv with q | q <;> omega) ?_)))))
        rcases hv with ⟨v1, v2, v3⟩ | ⟨v1, v2⟩
        · refine if_i v1 (G_i ⟨hx, v2⟩ ?_)
          rcases v3 with ⟨v4, v5⟩ | ⟨v4, v5⟩
          · subst v5
            exact el_i (by dsimp only; omega) rfl
          · exact if_i v4 (Ob_i v5 rfl)
        · subst v2
          exact el_i (by dsimp only; omega) rfl
      rcases k2 with ⟨a1, a2⟩ | ⟨a1, a2, a3, -⟩
      · dsimp only at a2
        exact ⟨_, _, cls (-1) (Or.inr ⟨a1, rfl⟩), model (-1) (by omega) (Or.inl ⟨by omega, rfl⟩), hRS, Or.inl ⟨rfl, rfl, rfl, by dsimp only; omega⟩⟩
      · dsimp only at a2 a3
        obtain ⟨hn, hH, hN, hE, -⟩ := a3
        subst a2
        by_cases e : qn ≤ x
        · exact ⟨_, _, cls (-1) (Or.inl ⟨a1, by omega, Or.inl ⟨e, rfl⟩⟩), model (-1) (by omega) (Or.inl ⟨e, rfl⟩), hRS, Or.inl ⟨rfl, rfl, rfl, by dsimp only; omega⟩⟩
        · have hv := tokensAt_ok hN hn.2 hP.2 (⟨d, by omega⟩ : 0 ≤ x ∧ x < qn) c
          have hb := (hN.1 x d (by omega)).1 p c.1 c.2
          exact ⟨_, _, cls _ (Or.inl ⟨a1, by omega, Or.inr ⟨by omega, hv⟩⟩), model _ (by omega) (Or.inr ⟨by omega, hn.2, rfl⟩), hRS, Or.inl ⟨rfl, rfl, rfl, by dsimp only; omega⟩⟩
    · refine ⟨(1, 0, rs, n, pairs, ends, tg, found, slots, de, fb, ta, la, ne), (0, 2, mk, wh, by_, ld), ?_, ?_, hR, Or.inr (Or.inr ⟨rfl, rfl⟩)⟩
      · unfold F_X5_marking
        exact Ob_i (needPlace_ok hq hP) (if_i (if_pos c) (G_i hx (el_i d rfl)))
      · unfold F_X6_marking F_X6_marking_b24
        exact Ob_i p1 (G_i (by omega) (el_i (by omega) (G_i hx (if_i (by omega) (Ob_i (goesWell_n (by omega) (by omega)) (G_i (by omega) (if_i rfl rfl)))))))
  · have hrp : rp = 0 := by
      rcases p2 with q | q
      · exact absurd q.2 c
      · exact q.1
    refine ⟨(3, 0, rs, n, pairs, ends, tg, found, slots, de, fb, ta, la, ne), (0, 1, mk, wh, by_, ld), ?_, ?_, hR, Or.inr (Or.inl ⟨rfl, rfl⟩)⟩
    · unfold F_X5_marking
      refine Ob_i (needPlace_ok hq hP) ?_
      rw [if_neg c]
      exact el_i (by omega) rfl
    · unfold F_X6_marking F_X6_marking_b24
      exact Ob_i p1 (G_i (by omega) (if_i hrp (Ob_i (goesWell_n (by omega) (by omega)) (G_i (by omega) (if_i rfl rfl)))))
