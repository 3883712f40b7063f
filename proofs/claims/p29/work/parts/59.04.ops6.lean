theorem op_graph {P F st rs n pairs ends tg x th qd : Int} {tok w : Nat → Int} {need bo em tak gi found : Nat → Int64} {slots de fb ta la ne mk wh by_ ld co mkd que : Nat → Int} (hp : packed F w need bo em tak gi) (hw : wOk w) (ho : wOut P w) (hP : 0 ≤ P ∧ P ≤ 6) (hF : 0 ≤ F ∧ F ≤ 8) (ht : tOk P (tk tok)) (hst : 0 ≤ st ∧ st < 1000000) (hx : inR x) (hR : RS P F tok w st rs n pairs ends tg found slots de fb ta la ne) :
    ∃ rx rm, F_X5_graph x F (pk (cut P (tk tok))) st need bo em tak gi qd rs n pairs ends tg found slots de fb ta la ne mkd que = some rx ∧ F_X6_graph x P F tok w th mk wh by_ ld co = some rm ∧ RS P F tok w st rx.2.2.2.1 rx.2.2.2.2.1 rx.2.2.2.2.2.1 rx.2.2.2.2.2.2.1 rx.2.2.2.2.2.2.2.1 rx.2.2.2.2.2.2.2.2.1 rx.2.2.2.2.2.2.2.2.2.1 rx.2.2.2.2.2.2.2.2.2.2.1 rx.2.2.2.2.2.2.2.2.2.2.2.1 rx.2.2.2.2.2.2.2.2.2.2.2.2.1 rx.2.2.2.2.2.2.2.2.2.2.2.2.2.1 rx.2.2.2.2.2.2.2.2.2.2.2.2.2.2.1 ∧ ((rx.1 = 0 ∧ rm.2.1 = 0 ∧ rx.2.1 = rm.1 ∧ inR rx.2.1) ∨ (rx.1 = 1 ∧ rm.2.1 = 1)) := by
  obtain ⟨rp, p1, p2⟩ := in_ok (x := x) (a := 0) (b := 3) hx (by omega) (by omega)
  have oi : ∀ {n : Int}, inR n → 0 ≤ n → inR n := fun h _ => h
  by_cases c : 0 ≤ x ∧ x ≤ 3
  · have hrp : rp = 1 := by
      rcases p2 with q | q
      · exact q.1
      · exact absurd c q.2
    obtain ⟨r3, g1, g2, g3⟩ := refresh_ok (st := st) (rs := rs) (n := n) (pairs := pairs) (ends := ends) (tg := tg) (found := found) (slots := slots) (de := de) (fb := fb) (ta := ta) (la := la) (ne := ne) hp hw ho hP hF ht (by have := hR.1; omega) (by omega) hR.2
    obtain ⟨q, k1, k2⟩ := g3 mk wh by_ ld
    obtain ⟨rs', n', pa', en', tg', fo', sl', de', fb', ta', la', ne'⟩ := r3
    obtain ⟨qn, qm, qw, qb, ql⟩ := q
    dsimp only at g2 g3 k2
    have hRS : RS P F tok w st rs' n' pa' en' tg' fo' sl' de' fb' ta' la' ne' := ⟨by omega, fun _ => g3⟩
    have model : ∀ r, inR qn → ((qn = -1 ∨ x = 0) ∧ r = (qn, 0, qm, qw, qb, ql, co) ∨ (qn ≠ -1 ∧ x ≠ 0 ∧ F_X6_graph_b47 P F tok w NN x qn 0 0 0 0 qm qw qb ql co = some r)) → F_X6_graph x P F tok w th mk wh by_ ld co = some r := fun r hqn hv => by
      unfold F_X6_graph F_X6_graph_b15 F_X6_graph_b37
      refine Ob_i p1 (G_i (by omega) (el_i (by omega) (Ob_i goesWell_0 (G_i (by omega) (el_i (by omega) (Ob_i k1 (G_i ⟨hqn, by omega⟩ ?_)))))))
      rcases hv with ⟨h1, h2⟩ | ⟨h1, h2, h3⟩
      · subst h2
        by_cases e : qn = -1
        · exact if_i e rfl
        · exact el_i e (G_i hx (if_i (h1.resolve_left e) rfl))
      · exact el_i h1 (G_i hx (el_i h2 h3))
    rcases k2 with ⟨a1, a2⟩ | ⟨a1, a2, a3, a4, a5⟩
    · dsimp only at a2
      subst a2
      refine ⟨(0, -1, qd, rs', n', pa', en', tg', fo', sl', de', fb', ta', la', ne', mkd, que), _, ?_, model _ (by omega) (Or.inl ⟨Or.inl rfl, rfl⟩), hRS, Or.inl ⟨rfl, rfl, rfl, by dsimp only; omega⟩⟩
      unfold F_X5_graph
      exact G_i hx (el_i (by omega) (G_i (by omega) (if_i c.2 (Ob_i g1 (G_i (by dsimp only; omega) (el_i (by dsimp only; omega) rfl))))))
    · dsimp only at a2 a3 a4 a5
      obtain ⟨hn, hH, hN, hE, -⟩ := a3
      subst a2
      have b1 := cntE_b (F := F) (ld := ql) (8 * qn).toNat
      have b2 := endsE_b (F := F) (ld := ql) qn.toNat
      by_cases x0 : x = 0
      · refine ⟨(0, qn, qd, rs', qn, pa', en', tg', fo', sl', de', fb', ta', la', ne', mkd, que), _, ?_, model _ (by omega) (Or.inl ⟨Or.inr x0, rfl⟩), hRS, Or.inl ⟨rfl, rfl, rfl, by dsimp only; omega⟩⟩
        unfold F_X5_graph
        exact G_i hx (el_i (by omega) (G_i (by omega) (if_i c.2 (Ob_i g1 (G_i (by dsimp only; omega) (if_i a1 (G_i hx (if_i x0 rfl))))))))
      · obtain ⟨rm, m1, ⟨co', m2⟩, m3, m4, m5⟩ := graphAll_ok (P := P) (th := 0) (tok := tok) (w := w) (mk := qm) (wh := qw) (by_ := qb) (co := co) (x := x) (ldOk_of hE hF.2) hn hF (by omega)
        have mm := model rm (by omega) (Or.inr ⟨by omega, x0, m1⟩)
        by_cases x1 : x = 1
        · refine ⟨(0, pa', qd, rs', qn, pa', en', tg', fo', sl', de', fb', ta', la', ne', mkd, que), rm, ?_, mm, hRS, Or.inl ⟨rfl, by rw [m2], by dsimp only; rw [m3 x1, a4], by dsimp only; omega⟩⟩
          unfold F_X5_graph
          exact G_i hx (el_i (by omega) (G_i (by omega) (if_i c.2 (Ob_i g1 (G_i (by dsimp only; omega) (if_i a1 (G_i hx (el_i x0 (if_i x1 rfl)))))))))
        · by_cases x2 : x = 2
          · refine ⟨(0, en', qd, rs', qn, pa', en', tg', fo', sl', de', fb', ta', la', ne', mkd, que), rm, ?_, mm, hRS, Or.inl ⟨rfl, by rw [m2], by dsimp only; rw [m4 x2, a5], by dsimp only; omega⟩⟩
            unfold F_X5_graph
            exact G_i hx (el_i (by omega) (G_i (by omega) (if_i c.2 (Ob_i g1 (G_i (by dsimp only; omega) (if_i a1 (G_i hx (el_i x0 (el_i x1 (if_i x2 rfl))))))))))
          · obtain ⟨r2, v1, v2⟩ := isHome_ok (q := qd) (mk := mkd) (qu := que) hE hn hF.2
            have m6 := m5 (by omega)
            rcases v2 with ⟨d1, d2⟩ | ⟨d1, d2⟩
            · have e1 : rm.1 = 1 := by
                rcases m6 with z | z
                · exact z.1
                · exact absurd d2 z.2
              refine ⟨(0, 1, r2.2.1, rs', qn, pa', en', tg', fo', sl', de', fb', ta', la', ne', r2.2.2.1, r2.2.2.2), rm, ?_, mm, hRS, Or.inl ⟨rfl, by rw [m2], e1.symm, by dsimp only; omega⟩⟩
              unfold F_X5_graph
              exact G_i hx (el_i (by omega) (G_i (by omega) (if_i c.2 (Ob_i g1 (G_i (by dsimp only; omega) (if_i a1 (G_i hx (el_i x0 (el_i x1 (el_i x2 (Ob_i v1 (G_i (by omega) (el_i (by omega) rfl)))))))))))))
            · have e1 : rm.1 = 0 := by
                rcases m6 with z | z
                · exact absurd z.2 d2
                · exact z.1
              refine ⟨(0, 0, r2.2.1, rs', qn, pa', en', tg', fo', sl', de', fb', ta', la', ne', r2.2.2.1, r2.2.2.2), rm, ?_, mm, hRS, Or.inl ⟨rfl, by rw [m2], e1.symm, by dsimp only; omega⟩⟩
              unfold F_X5_graph
              exact G_i hx (el_i (by omega) (G_i (by omega) (if_i c.2 (Ob_i g1 (G_i (by dsimp only; omega) (if_i a1 (G_i hx (el_i x0 (el_i x1 (el_i x2 (Ob_i v1 (G_i (by omega) (if_i d1 rfl))))))))))))) 
  · have hrp : rp = 0 := by
      rcases p2 with q | q
      · exact absurd q.2 c
      · exact q.1
    refine ⟨(1, 0, qd, rs, n, pairs, ends, tg, found, slots, de, fb, ta, la, ne, mkd, que), (0, 1, mk, wh, by_, ld, co), ?_, ?_, hR, Or.inr ⟨rfl, rfl⟩⟩
    · unfold F_X5_graph F_X5_graph_b9
      refine G_i hx ?_
      by_cases d : x < 0
      · exact if_i d rfl
      · exact el_i d (G_i (by omega) (el_i (by omega) rfl))
    · unfold F_X6_graph F_X6_graph_b15
      exact Ob_i p1 (G_i (by omega) (if_i hrp (Ob_i (goesWell_n (by omega) (by omega)) (G_i (by omega) (if_i rfl rfl)))))
