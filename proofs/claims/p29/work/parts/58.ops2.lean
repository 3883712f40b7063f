theorem needTokens_ok {x : Int} (hx : inR x) : F_X5_needTokens x = some (if 0 ≤ x ∧ x ≤ 99 then 0 else 1) := by
  unfold F_X5_needTokens F_X5_needTokens_b10
  refine G_i hx ?_
  by_cases c : x < 0
  · refine if_i c ?_
    rw [if_neg (by omega)]
  · refine el_i c (G_i ⟨hx, by omega⟩ ?_)
    by_cases d : x ≤ 99
    · refine if_i d ?_
      rw [if_pos (by omega)]
    · refine el_i d ?_
      rw [if_neg (by omega)]
theorem wished_none {P F x z : Int} {tok w mk wh by_ ld : Nat → Int} : F_X6_wished_b8 P F tok w NN x z (-1) 0 mk wh by_ ld = some (-1, mk, wh, by_, ld) := by
  obtain ⟨k, hk⟩ : ∃ k, NN = k + 1 := ⟨NN - 1, by have := NN_gt (z := 1) (by omega); omega⟩
  rw [hk]
  show F_X6_wished_b8_body P F tok w (F_X6_wished_b8 P F tok w k) x z (-1) 0 mk wh by_ ld = _
  unfold F_X6_wished_b8_body
  exact G_i (by omega) (if_i (by omega) rfl)
theorem op_way {P F st rs n pairs ends tg x z th : Int} {tok w : Nat → Int} {need bo em tak gi found : Nat → Int64} {slots de fb ta la ne mk wh by_ ld : Nat → Int} (hp : packed F w need bo em tak gi) (hw : wOk w) (ho : wOut P w) (hP : 0 ≤ P ∧ P ≤ 6) (hF : 0 ≤ F ∧ F ≤ 8) (ht : tOk P (tk tok)) (hst : 0 ≤ st ∧ st < 1000000) (hx : inR x) (hz : inR z) (hR : RS P F tok w st rs n pairs ends tg found slots de fb ta la ne) :
    ∃ rx rm, F_X5_way x z P F (pk (cut P (tk tok))) st need bo em tak gi rs n pairs ends tg found slots de fb ta la ne = some rx ∧ F_X6_way x z P F tok w th mk wh by_ ld = some rm ∧ RS P F tok w st rx.2.2.1 rx.2.2.2.1 rx.2.2.2.2.1 rx.2.2.2.2.2.1 rx.2.2.2.2.2.2.1 rx.2.2.2.2.2.2.2.1 rx.2.2.2.2.2.2.2.2.1 rx.2.2.2.2.2.2.2.2.2.1 rx.2.2.2.2.2.2.2.2.2.2.1 rx.2.2.2.2.2.2.2.2.2.2.2.1 rx.2.2.2.2.2.2.2.2.2.2.2.2.1 rx.2.2.2.2.2.2.2.2.2.2.2.2.2 ∧ ((rx.1 = 0 ∧ rm.2.1 = 0 ∧ rx.2.1 = rm.1 ∧ inR rx.2.1) ∨ (rx.1 = 3 ∧ rm.2.1 = 1) ∨ (rx.1 = 1 ∧ rm.2.1 = 2)) := by
  obtain ⟨rp, p1, p2⟩ := isPlace_ok hx hP
  obtain ⟨rt, t1, t2⟩ := in_ok (x := z) (a := 0) (b := 99) hz (by omega) (by omega)
  by_cases c : 0 ≤ x ∧ x < P
  · have hrp : rp = 1 := by
      rcases p2 with q | q
      · exact q.1
      · exact absurd c q.2
    by_cases d : 0 ≤ z ∧ z ≤ 99
    · have hrt : rt = 1 := by
        rcases t2 with q | q
        · exact q.1
        · exact absurd d q.2
      obtain ⟨r3, g1, g2, g3⟩ := refresh_ok (st := st) (rs := rs) (n := n) (pairs := pairs) (ends := ends) (tg := tg) (found := found) (slots := slots) (de := de) (fb := fb) (ta := ta) (la := la) (ne := ne) hp hw ho hP hF ht (by have := hR.1; omega) (by omega) hR.2
      obtain ⟨q, k1, k2⟩ := g3 mk wh by_ ld
      obtain ⟨rs', n', pa', en', tg', fo', sl', de', fb', ta', la', ne'⟩ := r3
      obtain ⟨qn, qm, qw, qb, ql⟩ := q
      dsimp only at g2 g3 k2
      have hRS : RS P F tok w st rs' n' pa' en' tg' fo' sl' de' fb' ta' la' ne' := ⟨by omega, fun _ => g3⟩
      have model : ∀ k v : Int, inR k → F_X6_wished_b8 P F tok w NN x z qn 0 qm qw qb ql = some (k, qm, qw, qb, ql) → ((k = -1 ∧ v = -1) ∨ (k ≠ -1 ∧ F_X6_lengthTo k qw = some v)) → F_X6_way x z P F tok w th mk wh by_ ld = some (v, 0, qm, qw, qb, ql) := fun k v hk hv h => by
        unfold F_X6_way F_X6_way_b30 F_X6_wished
        refine Ob_i p1 (G_i (by omega) (el_i (by omega) (Ob_i t1 (G_i (by omega) (el_i (by omega) (Ob_i goesWell_0 (G_i (by omega) (el_i (by omega) (Ob_i (Ob_i k1 hv) (G_i ⟨hk, by omega⟩ ?_))))))))))
        rcases h with ⟨h1, h2⟩ | ⟨h1, h2⟩
        · subst h2
          exact if_i h1 rfl
        · exact el_i h1 (Ob_i h2 rfl)
      have cls : ∀ v : Int, (tg' = 0 ∧ ∃ k, F_X1_firstWith x z n' fo' = some k ∧ F_X1_depthOf k n' de' = some v) ∨ (tg' = 1 ∧ v = -1) → F_X5_way x z P F (pk (cut P (tk tok))) st need bo em tak gi rs n pairs ends tg found slots de fb ta la ne = some (0, v, rs', n', pa', en', tg', fo', sl', de', fb', ta', la', ne') := fun v hv => by
        unfold F_X5_way
        refine Ob_i (needPlace_ok hx hP) (if_i (if_pos c) (Ob_i (needTokens_ok hz) (if_i (if_pos d) (Ob_i g1 (G_i (by dsimp only; rcases hv with q | q <;> omega) ?_)))))
        rcases hv with ⟨v1, k, v2, v3⟩ | ⟨v1, v2⟩
        · exact if_i v1 (Ob_i v2 (Ob_i v3 rfl))
        · subst v2
          exact el_i (by dsimp only; omega) rfl
      rcases k2 with ⟨a1, a2⟩ | ⟨a1, a2, a3, -⟩
      · dsimp only at a2
        exact ⟨_, _, cls (-1) (Or.inr ⟨a1, rfl⟩), model (-1) (-1) (by omega) (by rw [a2]; exact wished_none) (Or.inl ⟨rfl, rfl⟩), hRS, Or.inl ⟨rfl, rfl, rfl, by dsimp only; omega⟩⟩
      · dsimp only at a2 a3
        obtain ⟨hn, hH, hN, hE, -⟩ := a3
        obtain ⟨k, v1, v2, v3⟩ := firstWith_ok (tok := tok) (w := w) (ld := ql) hN hn hP.2 c hz
        subst a2
        have hd := depthOf_ok (de := de') hn v3
        by_cases e : k = -1
        · rw [if_pos e] at hd
          exact ⟨_, _, cls (-1) (Or.inl ⟨a1, k, v1, hd⟩), model k (-1) (by omega) v2 (Or.inl ⟨e, rfl⟩), hRS, Or.inl ⟨rfl, rfl, rfl, by dsimp only; omega⟩⟩
        · rw [if_neg e] at hd
          have hb := hN.2.2.2.2.2 k (by omega) v3.2
          exact ⟨_, _, cls _ (Or.inl ⟨a1, k, v1, hd⟩), model k _ (by omega) v2 (Or.inr ⟨e, lengthTo_ok hN hn ⟨by omega, v3.2⟩⟩), hRS, Or.inl ⟨rfl, rfl, rfl, by dsimp only; omega⟩⟩
    · have hrt : rt = 0 := by
        rcases t2 with q | q
        · exact absurd q.2 d
        · exact q.1
      refine ⟨(1, 0, rs, n, pairs, ends, tg, found, slots, de, fb, ta, la, ne), (0, 2, mk, wh, by_, ld), ?_, ?_, hR, Or.inr (Or.inr ⟨rfl, rfl⟩)⟩
      · unfold F_X5_way
        refine Ob_i (needPlace_ok hx hP) (if_i (if_pos c) (Ob_i (needTokens_ok hz) ?_))
        rw [if_neg d]
        exact el_i (by omega) rfl
      · unfold F_X6_way F_X6_way_b30
        exact Ob_i p1 (G_i (by omega) (el_i (by omega) (Ob_i t1 (G_i (by omega) (if_i hrt (Ob_i (goesWell_n (by omega) (by omega)) (G_i (by omega) (if_i rfl rfl))))))))
  · have hrp : rp = 0 := by
      rcases p2 with q | q
      · exact absurd q.2 c
      · exact q.1
    refine ⟨(3, 0, rs, n, pairs, ends, tg, found, slots, de, fb, ta, la, ne), (0, 1, mk, wh, by_, ld), ?_, ?_, hR, Or.inr (Or.inl ⟨rfl, rfl⟩)⟩
    · unfold F_X5_way
      refine Ob_i (needPlace_ok hx hP) ?_
      rw [if_neg c]
      exact el_i (by omega) rfl
    · unfold F_X6_way F_X6_way_b30
      exact Ob_i p1 (G_i (by omega) (if_i hrp (Ob_i (goesWell_n (by omega) (by omega)) (G_i (by omega) (if_i rfl rfl)))))
