theorem needFiring_ok {x F : Int} (hx : inR x) (hF : 0 ≤ F ∧ F ≤ 8) : F_X5_needFiring x F = some (if 0 ≤ x ∧ x < F then 0 else 3) := by
  unfold F_X5_needFiring F_X5_needFiring_b15
  refine G_i hx ?_
  by_cases c : x < 0
  · refine if_i c ?_
    rw [if_neg (by omega)]
  · refine el_i c (G_i ⟨hx, by omega⟩ ?_)
    by_cases d : x < F
    · refine if_i d ?_
      rw [if_pos (by omega)]
    · refine el_i d ?_
      rw [if_neg (by omega)]
theorem level_none {P F f th : Int} {tok w mk wh by_ ld co : Nat → Int} (hf : inR f) : F_X6_level_b32 P F tok w NN f (-1) 0 0 th mk wh by_ ld co = some (-1, th, mk, wh, by_, ld, co) := by
  obtain ⟨k, hk⟩ : ∃ k, NN = k + 1 := ⟨NN - 1, by have := NN_gt (z := 1) (by omega); omega⟩
  rw [hk]
  show F_X6_level_b32_body P F tok w (F_X6_level_b32 P F tok w k) f (-1) 0 0 th mk wh by_ ld co = _
  unfold F_X6_level_b32_body F_X6_level_b101
  exact G_i (by omega) (if_i (by omega) (G_i (by omega) (if_i rfl (G_i (by omega) (if_i rfl rfl)))))
theorem op_level {P F st rs n pairs ends tg x th qd : Int} {tok w : Nat → Int} {need bo em tak gi found : Nat → Int64} {slots de fb ta la ne mk wh by_ ld co mkd que : Nat → Int} (hp : packed F w need bo em tak gi) (hw : wOk w) (ho : wOut P w) (hP : 0 ≤ P ∧ P ≤ 6) (hF : 0 ≤ F ∧ F ≤ 8) (ht : tOk P (tk tok)) (hst : 0 ≤ st ∧ st < 1000000) (hx : inR x) (hR : RS P F tok w st rs n pairs ends tg found slots de fb ta la ne) :
    ∃ rx rm, F_X5_level x F (pk (cut P (tk tok))) st need bo em tak gi qd rs n pairs ends tg found slots de fb ta la ne mkd que = some rx ∧ F_X6_level x P F tok w th mk wh by_ ld co = some rm ∧ RS P F tok w st rx.2.2.2.1 rx.2.2.2.2.1 rx.2.2.2.2.2.1 rx.2.2.2.2.2.2.1 rx.2.2.2.2.2.2.2.1 rx.2.2.2.2.2.2.2.2.1 rx.2.2.2.2.2.2.2.2.2.1 rx.2.2.2.2.2.2.2.2.2.2.1 rx.2.2.2.2.2.2.2.2.2.2.2.1 rx.2.2.2.2.2.2.2.2.2.2.2.2.1 rx.2.2.2.2.2.2.2.2.2.2.2.2.2.1 rx.2.2.2.2.2.2.2.2.2.2.2.2.2.2.1 ∧ ((rx.1 = 0 ∧ rm.2.1 = 0 ∧ rx.2.1 = rm.1 ∧ inR rx.2.1) ∨ (rx.1 = 3 ∧ rm.2.1 = 1)) := by
  obtain ⟨rp, p1, p2⟩ := isFiring_ok hx hF
  by_cases c : 0 ≤ x ∧ x < F
  · have hrp : rp = 1 := by
      rcases p2 with q | q
      · exact q.1
      · exact absurd c q.2
    obtain ⟨r3, g1, g2, g3⟩ := refresh_ok (st := st) (rs := rs) (n := n) (pairs := pairs) (ends := ends) (tg := tg) (found := found) (slots := slots) (de := de) (fb := fb) (ta := ta) (la := la) (ne := ne) hp hw ho hP hF ht (by have := hR.1; omega) (by omega) hR.2
    obtain ⟨q, k1, k2⟩ := g3 mk wh by_ ld
    obtain ⟨rs', n', pa', en', tg', fo', sl', de', fb', ta', la', ne'⟩ := r3
    obtain ⟨qn, qm, qw, qb, ql⟩ := q
    dsimp only at g2 g3 k2
    have hRS : RS P F tok w st rs' n' pa' en' tg' fo' sl' de' fb' ta' la' ne' := ⟨by omega, fun _ => g3⟩
    have model : ∀ r, F_X6_level_b32 P F tok w NN x qn 0 0 0 qm qw qb ql co = some r → F_X6_level x P F tok w th mk wh by_ ld co = some r := fun r hv => by
      unfold F_X6_level F_X6_level_b14
      exact Ob_i p1 (G_i (by omega) (el_i (by omega) (Ob_i goesWell_0 (G_i (by omega) (el_i (by omega) (Ob_i k1 hv))))))
    have bad : tg' = 1 → F_X5_level x F (pk (cut P (tk tok))) st need bo em tak gi qd rs n pairs ends tg found slots de fb ta la ne mkd que = some (0, -1, qd, rs', n', pa', en', tg', fo', sl', de', fb', ta', la', ne', mkd, que) := fun h => by
      unfold F_X5_level
      exact Ob_i (needFiring_ok hx hF) (if_i (if_pos c) (Ob_i g1 (G_i (by dsimp only; omega) (el_i (by dsimp only; omega) rfl))))
    rcases k2 with ⟨a1, a2⟩ | ⟨a1, a2, a3, -⟩
    · dsimp only at a2
      subst a2
      exact ⟨_, _, bad a1, model _ (level_none hx), hRS, Or.inl ⟨rfl, rfl, rfl, by dsimp only; omega⟩⟩
    · dsimp only at a2 a3
      obtain ⟨hn, hH, hN, hE, -⟩ := a3
      subst a2
      obtain ⟨r4, v1, v2⟩ := levelOf_ok (q := qd) (mk := mkd) (qu := que) hE hn hF.2 c
      obtain ⟨rm, m1, m2, co', m3⟩ := levelAll_ok (P := P) (th := 0) (tok := tok) (w := w) (mk := qm) (wh := qw) (by_ := qb) (co := co) (ldOk_of hE hF.2) hn hF c v2
      have hr : inR r4.1 := by
        rcases v2 with ⟨q, -⟩ | ⟨-, ⟨q, -⟩ | ⟨q, -⟩⟩ <;> omega
      refine ⟨(0, r4.1, r4.2.1, rs', qn, pa', en', tg', fo', sl', de', fb', ta', la', ne', r4.2.2.1, r4.2.2.2), rm, ?_, model _ m1, hRS, Or.inl ⟨rfl, by rw [m3], m2.symm, hr⟩⟩
      unfold F_X5_level
      exact Ob_i (needFiring_ok hx hF) (if_i (if_pos c) (Ob_i g1 (G_i (by dsimp only; omega) (if_i a1 (Ob_i v1 rfl)))))
  · have hrp : rp = 0 := by
      rcases p2 with q | q
      · exact absurd q.2 c
      · exact q.1
    refine ⟨(3, 0, qd, rs, n, pairs, ends, tg, found, slots, de, fb, ta, la, ne, mkd, que), (0, 1, mk, wh, by_, ld, co), ?_, ?_, hR, Or.inr ⟨rfl, rfl⟩⟩
    · unfold F_X5_level
      refine Ob_i (needFiring_ok hx hF) ?_
      rw [if_neg c]
      exact el_i (by omega) rfl
    · unfold F_X6_level F_X6_level_b14
      exact Ob_i p1 (G_i (by omega) (if_i hrp (Ob_i (goesWell_n (by omega) (by omega)) (G_i (by omega) (if_i rfl rfl)))))
