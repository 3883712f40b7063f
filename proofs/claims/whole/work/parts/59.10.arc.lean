/-! the call arc -/
theorem wt_put {w : Nat → Int} {k f p v k' f' p' : Int} (hk : 0 ≤ k ∧ k < 5) (hf : 0 ≤ f ∧ f < 8) (hp : 0 ≤ p ∧ p < 6) (hk' : 0 ≤ k' ∧ k' < 5) (hf' : 0 ≤ f' ∧ f' < 8) (hp' : 0 ≤ p' ∧ p' < 6) : wt (uI w ((k * 8 + f) * 6 + p).toNat v) k' f' p' = if k' = k ∧ f' = f ∧ p' = p then v else wt w k' f' p' := by
  unfold wt
  by_cases e : k' = k ∧ f' = f ∧ p' = p
  · obtain ⟨rfl, rfl, rfl⟩ := e
    rw [uI_same, if_pos ⟨rfl, rfl, rfl⟩]
  · rw [uI_ne _ _ (by omega), if_neg e]
theorem arc_w {P F k f p v : Int} {w : Nat → Int} (hw : wOk w) (ho : wOut P w) (hP : 0 ≤ P ∧ P ≤ 6) (hk : 0 ≤ k ∧ k < 5) (hf : 0 ≤ f ∧ f < 8) (hp : 0 ≤ p ∧ p < P) (hv : 0 ≤ v ∧ v ≤ (if k = 4 then 1 else 3)) : wOk (uI w ((k * 8 + f) * 6 + p).toNat v) ∧ wOut P (uI w ((k * 8 + f) * 6 + p).toNat v) := by
  have hp6 : 0 ≤ p ∧ p < 6 := by omega
  refine ⟨⟨fun k' f' p' a1 a2 b1 b2 c1 c2 => ?_, fun f' p' b1 b2 c1 c2 => ?_⟩, fun k' f' p' a1 a2 b1 b2 c1 c2 => ?_⟩
  · rw [wt_put hk hf hp6 ⟨a1, a2⟩ ⟨b1, b2⟩ ⟨c1, c2⟩]
    by_cases e : k' = k ∧ f' = f ∧ p' = p
    · rw [if_pos e]
      by_cases z : k = 4
      · rw [if_pos z] at hv; omega
      · rw [if_neg z] at hv; omega
    · rw [if_neg e]; exact hw.1 k' f' p' a1 a2 b1 b2 c1 c2
  · rw [wt_put hk hf hp6 ⟨by omega, by omega⟩ ⟨b1, b2⟩ ⟨c1, c2⟩]
    by_cases e : 4 = k ∧ f' = f ∧ p' = p
    · rw [if_pos e]
      rw [if_pos e.1.symm] at hv
      exact hv.2
    · rw [if_neg e]; exact hw.2 f' p' b1 b2 c1 c2
  · rw [wt_put hk hf hp6 ⟨a1, a2⟩ ⟨b1, b2⟩ ⟨by omega, c2⟩, if_neg (by omega)]
    exact ho k' f' p' a1 a2 b1 b2 c1 c2
theorem setWeight_ok {F k f p v sh st : Int} {w : Nat → Int} {need bo em tak gi : Nat → Int64} (hpk : packed F w need bo em tak gi) (hF : F ≤ 8) (hk : 0 ≤ k ∧ k < 5) (hf : 0 ≤ f ∧ f < 8) (hp : 0 ≤ p ∧ p < 6) (hw : wOk (uI w ((k * 8 + f) * 6 + p).toNat v)) :
    ∃ r, F_X3_setWeight k f p v sh st w need bo em tak gi = some r ∧ (r.1 = wt w k f p ∧ r.2.1 = sh + 1 ∧ r.2.2.1 = st + 1 ∧ r.2.2.2.1 = uI w ((k * 8 + f) * 6 + p).toNat v ∧ packed F (uI w ((k * 8 + f) * 6 + p).toNat v) r.2.2.2.2.1 r.2.2.2.2.2.1 r.2.2.2.2.2.2.1 r.2.2.2.2.2.2.2.1 r.2.2.2.2.2.2.2.2) := by
  obtain ⟨r, g1, ⟨a1, a2, a3, a4, a5⟩, g2⟩ := pack_ok (f := f) (ne := need) (bo := bo) (em := em) (ta := tak) (gi := gi) hw hf
  unfold F_X3_setWeight F_X3_setWeight_b46
  refine Ob_e (wt3_ok hk hf hp) (Bd_e (G_e (by omega) (el_e (by omega) (Bd_e (G_e (by omega) (el_e (by omega) (G_e (by omega) (Bd_e (Ob_e g1 (Bd_e (Bd_e (so_e ⟨rfl, rfl, rfl, rfl, fun f' f1 f2 => ?_⟩))))))))))))
  dsimp only
  by_cases e : f' = f
  · rw [e]; exact ⟨a1, a2, a3, a4, a5⟩
  · obtain ⟨b1, b2, b3, b4, b5⟩ := g2 f'.toNat (by omega)
    rw [b1, b2, b3, b4, b5]
    obtain ⟨c1, c2, c3, c4, c5⟩ := hpk f' f1 f2
    have ew : ∀ k' p' : Int, 0 ≤ k' → k' < 5 → 0 ≤ p' → p' < 6 → wt (uI w ((k * 8 + f) * 6 + p).toNat v) k' f' p' = wt w k' f' p' := fun k' p' q1 q2 q3 q4 => by
      rw [wt_put hk hf hp ⟨q1, q2⟩ ⟨f1, by omega⟩ ⟨q3, q4⟩, if_neg (fun z => e z.2.1)]
    refine ⟨c1.trans (pk_cong fun p' q1 q2 => ?_), c2.trans (pk_cong fun p' q1 q2 => ?_), c3.trans (pk_cong fun p' q1 q2 => ?_), c4.trans (pk_cong fun p' q1 q2 => ?_), c5.trans (pk_cong fun p' q1 q2 => ?_)⟩
    · unfold nzOf; rw [ew 0 p' (by omega) (by omega) q1 q2, ew 2 p' (by omega) (by omega) q1 q2]
    · unfold boOf; rw [ew 3 p' (by omega) (by omega) q1 q2]
    · unfold emOf; rw [ew 4 p' (by omega) (by omega) q1 q2]
    · unfold taOf; rw [ew 4 p' (by omega) (by omega) q1 q2, ew 0 p' (by omega) (by omega) q1 q2]
    · unfold giOf; rw [ew 1 p' (by omega) (by omega) q1 q2]
