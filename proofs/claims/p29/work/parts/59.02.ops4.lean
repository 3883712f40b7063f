theorem op_step {P F st rs n pairs ends tg x z y th : Int} {tok w : Nat → Int} {need bo em tak gi found : Nat → Int64} {slots de fb ta la ne mk wh by_ ld : Nat → Int} (hp : packed F w need bo em tak gi) (hw : wOk w) (ho : wOut P w) (hP : 0 ≤ P ∧ P ≤ 6) (hF : 0 ≤ F ∧ F ≤ 8) (ht : tOk P (tk tok)) (hst : 0 ≤ st ∧ st < 1000000) (hx : inR x) (hz : inR z) (hy : inR y) (hR : RS P F tok w st rs n pairs ends tg found slots de fb ta la ne) :
    ∃ rx rm, F_X5_step x z y P F (pk (cut P (tk tok))) st need bo em tak gi rs n pairs ends tg found slots de fb ta la ne = some rx ∧ F_X6_step x z y P F tok w th mk wh by_ ld = some rm ∧ RS P F tok w st rx.2.2.1 rx.2.2.2.1 rx.2.2.2.2.1 rx.2.2.2.2.2.1 rx.2.2.2.2.2.2.1 rx.2.2.2.2.2.2.2.1 rx.2.2.2.2.2.2.2.2.1 rx.2.2.2.2.2.2.2.2.2.1 rx.2.2.2.2.2.2.2.2.2.2.1 rx.2.2.2.2.2.2.2.2.2.2.2.1 rx.2.2.2.2.2.2.2.2.2.2.2.2.1 rx.2.2.2.2.2.2.2.2.2.2.2.2.2 ∧ ((rx.1 = 0 ∧ rm.2.1 = 0 ∧ rx.2.1 = rm.1 ∧ inR rx.2.1) ∨ (rx.1 = 3 ∧ rm.2.1 = 1) ∨ (rx.1 = 1 ∧ rm.2.1 = 2)) := by
  obtain ⟨rp, p1, p2⟩ := isPlace_ok hx hP
  obtain ⟨rt, t1, t2⟩ := in_ok (x := z) (a := 0) (b := 99) hz (by omega) (by omega)
  have bad2 : F_X6_step_b35 P F tok w x z y th mk wh by_ ld = some (0, 2, mk, wh, by_, ld) := by
    unfold F_X6_step_b35 F_X6_step_b36
    exact Ob_i (goesWell_n (by omega) (by omega)) (G_i (by omega) (if_i rfl rfl))
  by_cases c : 0 ≤ x ∧ x < P
  · have hrp : rp = 1 := by
      rcases p2 with q | q
      · exact q.1
      · exact absurd c q.2
    by_cases d : 0 ≤ z ∧ z ≤ 99
    · have hrt : rt = 1 := by
        rcases t2 with q | q
        · exact q.1
        · exact absurd d q.2
      by_cases e0 : 0 ≤ y
      · obtain ⟨r3, g1, g2, g3⟩ := refresh_ok (st := st) (rs := rs) (n := n) (pairs := pairs) (ends := ends) (tg := tg) (found := found) (slots := slots) (de := de) (fb := fb) (ta := ta) (la := la) (ne := ne) hp hw ho hP hF ht (by have := hR.1; omega) (by omega) hR.2
        obtain ⟨q, k1, k2⟩ := g3 mk wh by_ ld
        obtain ⟨rs', n', pa', en', tg', fo', sl', de', fb', ta', la', ne'⟩ := r3
        obtain ⟨qn, qm, qw, qb, ql⟩ := q
        dsimp only at g2 g3 k2
        have hRS : RS P F tok w st rs' n' pa' en' tg' fo' sl' de' fb' ta' la' ne' := ⟨by omega, fun _ => g3⟩
        have model : ∀ k l v : Int, inR k → F_X6_wished_b8 P F tok w NN x z qn 0 qm qw qb ql = some (k, qm, qw, qb, ql) → ((k = -1 ∧ l = 0) ∨ (k ≠ -1 ∧ F_X6_lengthTo k qw = some l)) → F_X6_step_b68 P F tok w y k l 0 qm qw qb ql = some (v, 0, qm, qw, qb, ql) → F_X6_step x z y P F tok w th mk wh by_ ld = some (v, 0, qm, qw, qb, ql) := fun k l v hk hv h h68 => by
          unfold F_X6_step F_X6_step_b36 F_X6_wished
          refine Ob_i p1 (G_i (by omega) (el_i (by omega) (Ob_i t1 (G_i (by omega) (el_i (by omega) (G_i hy (el_i (by omega) (Ob_i goesWell_0 (G_i (by omega) (el_i (by omega) (Ob_i (Ob_i k1 hv) (G_i ⟨hk, by omega⟩ ?_))))))))))))
          rcases h with ⟨h1, h2⟩ | ⟨h1, h2⟩
          · subst h2
            exact if_i h1 h68
          · exact el_i h1 (Ob_i h2 h68)
        have cls : ∀ v : Int, (tg' = 0 ∧ ∃ k, F_X1_firstWith x z n' fo' = some k ∧ F_X1_firingTowards k y n' de' fb' = some v) ∨ (tg' = 1 ∧ v = -1) → F_X5_step x z y P F (pk (cut P (tk tok))) st need bo em tak gi rs n pairs ends tg found slots de fb ta la ne = some (0, v, rs', n', pa', en', tg', fo', sl', de', fb', ta', la', ne') := fun v hv => by
          unfold F_X5_step
          refine Ob_i (needPlace_ok hx hP) (if_i (if_pos c) (Ob_i (needTokens_ok hz) (if_i (if_pos d) (G_i hy (if_i e0 (Ob_i g1 (G_i (by dsimp only; rcases hv with q | q <;> omega) ?_)))))))
          rcases hv with ⟨v1, k, v2, v3⟩ | ⟨v1, v2⟩
          · exact if_i v1 (Ob_i v2 (Ob_i v3 rfl))
          · subst v2
            exact el_i (by dsimp only; omega) rfl
        rcases k2 with ⟨a1, a2⟩ | ⟨a1, a2, a3, -⟩
        · dsimp only at a2
          refine ⟨_, _, cls (-1) (Or.inr ⟨a1, rfl⟩), model (-1) 0 (-1) (by omega) (by rw [a2]; exact wished_none) (Or.inl ⟨rfl, rfl⟩) ?_, hRS, Or.inl ⟨rfl, rfl, rfl, by dsimp only; omega⟩⟩
          unfold F_X6_step_b68
          exact G_i ⟨hy, by omega⟩ (el_i (by omega) rfl)
        · dsimp only at a2 a3
          obtain ⟨hn, hH, hN, hE, -⟩ := a3
          obtain ⟨k, v1, v2, v3⟩ := firstWith_ok (tok := tok) (w := w) (ld := ql) hN hn hP.2 c hz
          subst a2
          obtain ⟨v, m1, m2, m3⟩ := towards_ok (tok := tok) (w := w) (ld := ql) (th := 0) hN hn hF v3 ⟨e0, hy.2⟩
          refine ⟨_, _, cls v (Or.inl ⟨a1, k, v1, m1⟩), model k _ v (by omega) v2 ?_ m2, hRS, Or.inl ⟨rfl, rfl, rfl, by dsimp only; omega⟩⟩
          by_cases e : k = -1
          · exact Or.inl ⟨e, if_pos e⟩
          · rw [if_neg e]
            exact Or.inr ⟨e, lengthTo_ok hN hn ⟨by omega, v3.2⟩⟩
      · refine ⟨(1, 0, rs, n, pairs, ends, tg, found, slots, de, fb, ta, la, ne), (0, 2, mk, wh, by_, ld), ?_, ?_, hR, Or.inr (Or.inr ⟨rfl, rfl⟩)⟩
        · unfold F_X5_step
          exact Ob_i (needPlace_ok hx hP) (if_i (if_pos c) (Ob_i (needTokens_ok hz) (if_i (if_pos d) (G_i hy (el_i e0 rfl)))))
        · unfold F_X6_step
          exact Ob_i p1 (G_i (by omega) (el_i (by omega) (Ob_i t1 (G_i (by omega) (el_i (by omega) (G_i hy (if_i (by omega) bad2)))))))
    · have hrt : rt = 0 := by
        rcases t2 with q | q
        · exact absurd q.2 d
        · exact q.1
      refine ⟨(1, 0, rs, n, pairs, ends, tg, found, slots, de, fb, ta, la, ne), (0, 2, mk, wh, by_, ld), ?_, ?_, hR, Or.inr (Or.inr ⟨rfl, rfl⟩)⟩
      · unfold F_X5_step
        refine Ob_i (needPlace_ok hx hP) (if_i (if_pos c) (Ob_i (needTokens_ok hz) ?_))
        rw [if_neg d]
        exact el_i (by omega) rfl
      · unfold F_X6_step
        exact Ob_i p1 (G_i (by omega) (el_i (by omega) (Ob_i t1 (G_i (by omega) (if_i hrt bad2)))))
  · have hrp : rp = 0 := by
      rcases p2 with q | q
      · exact absurd q.2 c
      · exact q.1
    refine ⟨(3, 0, rs, n, pairs, ends, tg, found, slots, de, fb, ta, la, ne), (0, 1, mk, wh, by_, ld), ?_, ?_, hR, Or.inr (Or.inl ⟨rfl, rfl⟩)⟩
    · unfold F_X5_step
      refine Ob_i (needPlace_ok hx hP) ?_
      rw [if_neg c]
      exact el_i (by omega) rfl
    · unfold F_X6_step F_X6_step_b36
      exact Ob_i p1 (G_i (by omega) (if_i hrp (Ob_i (goesWell_n (by omega) (by omega)) (G_i (by omega) (if_i rfl rfl)))))
