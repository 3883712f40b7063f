/-! the call arc -/
theorem wt_put {w : Nat → Int} {k f p v k' f' p' : Int} (hk : 0 ≤ k ∧ k < 5) (hf : 0 ≤ f ∧ f < 8) (hp : 0 ≤ p ∧ p < 6) (hk' : 0 ≤ k' ∧ k' < 5) (hf' : 0 ≤ f' ∧ f' < 8) (hp' : 0 ≤ p' ∧ p' < 6) : wt (uI w ((k * 8 + f) * 6 + p).toNat v) k' f' p' = if k' = k ∧ f' = f ∧ p' = p then v else wt w k' f' p' := by
  unfold wt
  by_cases e : k' = k ∧ f' = f ∧ p' = p
  · obtain ⟨rfl, rfl, rfl⟩ := e
    rw [uI_same, if_pos ⟨rfl, rfl, rfl⟩]
  · rw [uI_ne _ _ (by omega), if_neg e]
theorem arc_w {P F k f p v : Int} {w : Nat → Int} (hw : wOk w) (ho : wOut P w) (hP : 0 ≤ P ∧ P ≤ 6) (hk : 0 ≤ k ∧ k < 5) (hf : 0 ≤ f ∧ f < 8) (hp : 0 ≤ p ∧ p < P) (hv : 0 ≤ v ∧ v ≤ (if k = 4 then 1 else 3)) : wOk (uI w ((k * 8 + f) * 6 + p).toNat v) ∧ wOut P (uI w ((k * 8 + f) * 6 + p).toNat v) := by
  have hp6 : 0 ≤ p ∧ p < 6 := by omega
  refine ⟨⟨fun k' f' p' a1 a2 b1 b2 c1 c2 => ?_, fun f' p' b1 b2 c1 c2 => ?_⟩, fun k' f' p' a1 a2 b1 b2 c1 c2 => ?_⟩
  · rw [wt_put hk hf hp6 ⟨a1, a2⟩ ⟨b1, b2⟩ ⟨c1, c2⟩]
    by_cases e : k' = k ∧ f' = f ∧ p' = p
    · rw [if_pos e]
      by_cases z : k = 4
      · rw [if_pos z] at hv; omega
      · rw [if_neg z] at hv; omega
    · rw [if_neg e]; exact hw.1 k' f' p' a1 a2 b1 b2 c1 c2
  · rw [wt_put hk hf hp6 ⟨by omega, by omega⟩ ⟨b1, b2⟩ ⟨c1, c2⟩]
    by_cases e : 4 = k ∧ f' = f ∧ p' = p
    · rw [if_pos e]
      rw [if_pos e.1.symm] at hv
      exact hv.2
    · rw [if_neg e]; exact hw.2 f' p' b1 b2 c1 c2
  · rw [wt_put hk hf hp6 ⟨a1, a2⟩ ⟨b1, b2⟩ ⟨by omega, c2⟩, if_neg (by omega)]
    exact ho k' f' p' a1 a2 b1 b2 c1 c2
theorem setWeight_ok {F k f p v sh st : Int} {w : Nat → Int} {need bo em tak gi : Nat → Int64} (hpk : packed F w need bo em tak gi) (hF : F ≤ 8) (hk : 0 ≤ k ∧ k < 5) (hf : 0 ≤ f ∧ f < 8) (hp : 0 ≤ p ∧ p < 6) (hw : wOk (uI w ((k * 8 + f) * 6 + p).toNat v)) :
    ∃ r, F_X3_setWeight k f p v sh st w need bo em tak gi = some r ∧ (r.1 = wt w k f p ∧ r.2.1 = sh + 1 ∧ r.2.2.1 = st + 1 ∧ r.2.2.2.1 = uI w ((k * 8 + f) * 6 + p).toNat v ∧ packed F (uI w ((k * 8 + f) * 6 + p).toNat v) r.2.2.2.2.1 r.2.2.2.2.2.1 r.2.2.2.2.2.2.1 r.2.2.2.2.2.2.2.1 r.2.2.2.2.2.2.2.2) := by
  obtain ⟨r, g1, ⟨a1, a2, a3, a4, a5⟩, g2⟩ := pack_ok (f := f) (ne := need) (bo := bo) (em := em) (ta := tak) (gi := gi) hw hf
  unfold F_X3_setWeight F_X3_setWeight_b46
  refine Ob_e (wt3_ok hk hf hp) (Bd_e (G_e (by omega) (el_e (by omega) (Bd_e (G_e (by omega) (el_e (by omega) (G_e (by omega) (Bd_e (Ob_e g1 (Bd_e (Bd_e (so_e ⟨rfl, rfl, rfl, rfl, fun f' f1 f2 => ?_⟩))))))))))))
  dsimp only
  by_cases e : f' = f
  · rw [e]; exact ⟨a1, a2, a3, a4, a5⟩
  · obtain ⟨b1, b2, b3, b4, b5⟩ := g2 f'.toNat (by omega)
    rw [b1, b2, b3, b4, b5]
    obtain ⟨c1, c2, c3, c4, c5⟩ := hpk f' f1 f2
    have ew : ∀ k' p' : Int, 0 ≤ k' → k' < 5 → 0 ≤ p' → p' < 6 → wt (uI w ((k * 8 + f) * 6 + p).toNat v) k' f' p' = wt w k' f' p' := fun k' p' q1 q2 q3 q4 => by
      rw [wt_put hk hf hp ⟨q1, q2⟩ ⟨f1, by omega⟩ ⟨q3, q4⟩, if_neg (fun z => e z.2.1)]
    refine ⟨c1.trans (pk_cong fun p' q1 q2 => ?_), c2.trans (pk_cong fun p' q1 q2 => ?_), c3.trans (pk_cong fun p' q1 q2 => ?_), c4.trans (pk_cong fun p' q1 q2 => ?_), c5.trans (pk_cong fun p' q1 q2 => ?_)⟩
    · unfold nzOf; rw [ew 0 p' (by omega) (by omega) q1 q2, ew 2 p' (by omega) (by omega) q1 q2]
    · unfold boOf; rw [ew 3 p' (by omega) (by omega) q1 q2]
    · unfold emOf; rw [ew 4 p' (by omega) (by omega) q1 q2]
    · unfold taOf; rw [ew 4 p' (by omega) (by omega) q1 q2, ew 0 p' (by omega) (by omega) q1 q2]
    · unfold giOf; rw [ew 1 p' (by omega) (by omega) q1 q2]
theorem op_arc {P F f p k v th sh st : Int} {w : Nat → Int} {need bo em tak gi : Nat → Int64} (hpk : packed F w need bo em tak gi) (hw : wOk w) (ho : wOut P w) (hP : 0 ≤ P ∧ P ≤ 6) (hF : 0 ≤ F ∧ F ≤ 8) (h1 : inR f) (h2 : inR p) (h3 : inR k) (h4 : inR v) :
    ∃ rx rm, F_X5_arc f p k v P F sh st w need bo em tak gi = some rx ∧ F_X6_arc f p k v P F th w = some rm ∧ rx.2.2.2.2.1 = rm.2.2 ∧ ((rx.1 = 0 ∧ rm.2.1 = 0 ∧ rx.2.1 = rm.1 ∧ inR rx.2.1 ∧ rx.2.2.1 = sh + 1 ∧ rx.2.2.2.1 = st + 1 ∧ wOk rm.2.2 ∧ wOut P rm.2.2 ∧ packed F rm.2.2 rx.2.2.2.2.2.1 rx.2.2.2.2.2.2.1 rx.2.2.2.2.2.2.2.1 rx.2.2.2.2.2.2.2.2.1 rx.2.2.2.2.2.2.2.2.2) ∨ (((rx.1 = 3 ∧ rm.2.1 = 1) ∨ (rx.1 = 1 ∧ rm.2.1 = 2)) ∧ rx.2.2 = (sh, st, w, need, bo, em, tak, gi) ∧ rm.2.2 = w)) := by
  obtain ⟨ra, a1, a2⟩ := isFiring_ok h1 hF
  obtain ⟨rb, b1, b2⟩ := isPlace_ok h2 hP
  obtain ⟨rc, c1, c2⟩ := in_ok (x := k) (a := 0) (b := 4) h3 (by omega) (by omega)
  obtain ⟨rd, d1, d2⟩ := in_ok (x := v) (a := 0) (b := if k = 4 then 1 else 3) h4 (by omega) (by split <;> omega)
  -- the reference's end
  have e78 : ∀ s : Int, s = 1 ∨ s = 2 → F_X6_arc_b78 P F f p k v s th w = some (0, s, w) := fun s hs => by
    unfold F_X6_arc_b78
    exact Ob_i (goesWell_n (by omega) (by omega)) (G_i (by omega) (if_i rfl rfl))
  have e21 : ∀ s0 : Int, s0 = 0 ∨ s0 = 1 → F_X6_arc_b21 P F f p k v s0 th w = F_X6_arc_b78 P F f p k v (if s0 = 0 then 1 else if (0 ≤ k ∧ k ≤ 4) ∧ 0 ≤ v ∧ v ≤ (if k = 4 then 1 else 3) then 0 else 2) th w := fun s0 hs => by
    have i56 : ∀ t : Int, t = 0 ∨ t = 1 → F_X6_arc_b56 P F f p k v s0 t th w = F_X6_arc_b78 P F f p k v (if s0 = 0 then 1 else if t = 0 then 2 else 0) th w := fun t ht => by
      unfold F_X6_arc_b56
      refine G_i (by omega) ?_
      by_cases z : s0 = 0
      · rw [if_pos z, if_pos z]
      · rw [if_neg z, if_neg z]
        refine G_i (by omega) ?_
        by_cases y : t = 0
        · rw [if_pos y, if_pos y]
        · rw [if_neg y, if_neg y]
    have i45 : (0 ≤ k ∧ k ≤ 4) → F_X6_arc_b45 P F f p k v s0 v 0 (if k = 4 then 1 else 3) th w = F_X6_arc_b78 P F f p k v (if s0 = 0 then 1 else if (0 ≤ k ∧ k ≤ 4) ∧ 0 ≤ v ∧ v ≤ (if k = 4 then 1 else 3) then 0 else 2) th w := fun hk => by
      unfold F_X6_arc_b45 F_X6_arc_b55
      refine Ob_i d1 (G_i (by have := isB_01 d2; omega) ?_)
      rcases d2 with ⟨q1, q2⟩ | ⟨q1, q2⟩
      · refine el_i (by omega) ?_
        rw [i56 1 (by omega), if_neg (by omega : ¬ (1 : Int) = 0), if_pos (⟨hk, q2⟩ : (0 ≤ k ∧ k ≤ 4) ∧ 0 ≤ v ∧ v ≤ (if k = 4 then 1 else 3))]
      · refine if_i q1 ?_
        rw [i56 0 (by omega), if_pos (rfl : (0 : Int) = 0), if_neg (show ¬ ((0 ≤ k ∧ k ≤ 4) ∧ 0 ≤ v ∧ v ≤ (if k = 4 then 1 else 3)) from fun z => q2 z.2)]
    unfold F_X6_arc_b21
    refine Ob_i c1 (G_i (by have := isB_01 c2; omega) ?_)
    rcases c2 with ⟨q1, q2⟩ | ⟨q1, q2⟩
    · refine el_i (by omega) (G_i (by omega) ?_)
      have := i45 q2
      by_cases z : k = 4
      · rw [if_pos z] at this ⊢
        rw [if_pos z]
        exact this
      · rw [if_neg z] at this ⊢
        rw [if_neg z]
        exact this
    · refine if_i q1 ?_
      unfold F_X6_arc_b55
      rw [i56 0 (by omega), if_pos (rfl : (0 : Int) = 0), if_neg (show ¬ ((0 ≤ k ∧ k ≤ 4) ∧ 0 ≤ v ∧ v ≤ (if k = 4 then 1 else 3)) from fun z => q2 z.1)]
  have mod : F_X6_arc f p k v P F th w = F_X6_arc_b78 P F f p k v (if (0 ≤ f ∧ f < F) ∧ 0 ≤ p ∧ p < P then (if (0 ≤ k ∧ k ≤ 4) ∧ 0 ≤ v ∧ v ≤ (if k = 4 then 1 else 3) then 0 else 2) else 1) th w := by
    have n20 : ¬ ((0 ≤ f ∧ f < F) ∧ 0 ≤ p ∧ p < P) → F_X6_arc_b20 P F f p k v th w = F_X6_arc_b78 P F f p k v (if (0 ≤ f ∧ f < F) ∧ 0 ≤ p ∧ p < P then (if (0 ≤ k ∧ k ≤ 4) ∧ 0 ≤ v ∧ v ≤ (if k = 4 then 1 else 3) then 0 else 2) else 1) th w := fun h => by
      unfold F_X6_arc_b20
      rw [e21 0 (by omega), if_pos (rfl : (0 : Int) = 0), if_neg h]
    unfold F_X6_arc
    refine Ob_i a1 (G_i (by have := isB_01 a2; omega) ?_)
    rcases a2 with ⟨q1, q2⟩ | ⟨q1, q2⟩
    · refine el_i (by omega) (Ob_i b1 (G_i (by have := isB_01 b2; omega) ?_))
      rcases b2 with ⟨q3, q4⟩ | ⟨q3, q4⟩
      · refine el_i (by omega) ?_
        rw [e21 1 (by omega), if_neg (by omega : ¬ (1 : Int) = 0), if_pos (⟨q2, q4⟩ : (0 ≤ f ∧ f < F) ∧ 0 ≤ p ∧ p < P)]
      · exact if_i q3 (n20 (fun z => q4 z.2))
    · exact if_i q1 (n20 (fun z => q2 z.1))
  by_cases hf : 0 ≤ f ∧ f < F
  · by_cases hp : 0 ≤ p ∧ p < P
    · rw [if_pos (⟨hf, hp⟩ : (0 ≤ f ∧ f < F) ∧ 0 ≤ p ∧ p < P)] at mod
      by_cases hk : 0 ≤ k ∧ k ≤ 4
      · by_cases hv : 0 ≤ v ∧ v ≤ (if k = 4 then 1 else 3)
        · rw [if_pos (⟨hk, hv⟩ : (0 ≤ k ∧ k ≤ 4) ∧ 0 ≤ v ∧ v ≤ (if k = 4 then 1 else 3))] at mod
          have hf8 : 0 ≤ f ∧ f < 8 := by omega
          have hp6 : 0 ≤ p ∧ p < 6 := by omega
          have hk5 : 0 ≤ k ∧ k < 5 := by omega
          obtain ⟨w1, w2⟩ := arc_w (F := F) hw ho hP hk5 hf8 hp hv
          obtain ⟨r, g1, g2, g3, g4, g5, g6⟩ := setWeight_ok (sh := sh) (st := st) hpk hF.2 hk5 hf8 hp6 w1
          have hb := hw.1 k f p hk5.1 hk5.2 hf8.1 hf8.2 hp6.1 hp6.2
          refine ⟨(0, r.1, r.2.1, r.2.2.1, r.2.2.2.1, r.2.2.2.2.1, r.2.2.2.2.2.1, r.2.2.2.2.2.2.1, r.2.2.2.2.2.2.2.1, r.2.2.2.2.2.2.2.2), (wt w k f p, 0, uI w ((k * 8 + f) * 6 + p).toNat v), ?_, ?_, g5, Or.inl ⟨rfl, rfl, g2, by dsimp only; omega, g3, g4, w1, w2, g6⟩⟩
          · unfold F_X5_arc F_X5_arc_b46
            refine Ob_i (needFiring_ok h1 hF) (if_i (if_pos hf) (Ob_i (needPlace_ok h2 hP) (if_i (if_pos hp) (G_i h3 (el_i (by omega) (G_i (by omega) (if_i hk.2 (G_i h4 (el_i (by omega) (G_i (by omega) ?_))))))))))
            by_cases z : k = 4
            · rw [if_pos z] at hv
              exact if_i z (G_i (by omega) (if_i hv.2 (Ob_i g1 rfl)))
            · rw [if_neg z] at hv
              exact el_i z (G_i (by omega) (if_i hv.2 (Ob_i g1 rfl)))
          · rw [mod]
            unfold F_X6_arc_b78
            refine Ob_i goesWell_0 (G_i (by omega) (el_i (by omega) (Ob_i (wt6_ok hk5 hf8 hp6) (Bd_i (G_i (by omega) (Bd_i ?_))))))
            rw [show 48 * k + 6 * f + p = (k * 8 + f) * 6 + p by omega]
        · rw [if_neg (show ¬ ((0 ≤ k ∧ k ≤ 4) ∧ 0 ≤ v ∧ v ≤ (if k = 4 then 1 else 3)) from fun z => hv z.2), e78 2 (by omega)] at mod
          refine ⟨(1, 0, sh, st, w, need, bo, em, tak, gi), _, ?_, mod, rfl, Or.inr ⟨Or.inr ⟨rfl, rfl⟩, rfl, rfl⟩⟩
          unfold F_X5_arc F_X5_arc_b46 F_X5_arc_b49
          refine Ob_i (needFiring_ok h1 hF) (if_i (if_pos hf) (Ob_i (needPlace_ok h2 hP) (if_i (if_pos hp) (G_i h3 (el_i (by omega) (G_i (by omega) (if_i hk.2 (G_i h4 ?_))))))))
          by_cases y : v < 0
          · exact if_i y rfl
          · refine el_i y (G_i (by omega) ?_)
            by_cases z : k = 4
            · rw [if_pos z] at hv
              exact if_i z (G_i (by omega) (el_i (by omega) rfl))
            · rw [if_neg z] at hv
              exact el_i z (G_i (by omega) (el_i (by omega) rfl))
      · rw [if_neg (show ¬ ((0 ≤ k ∧ k ≤ 4) ∧ 0 ≤ v ∧ v ≤ (if k = 4 then 1 else 3)) from fun z => hk z.1), e78 2 (by omega)] at mod
        refine ⟨(1, 0, sh, st, w, need, bo, em, tak, gi), _, ?_, mod, rfl, Or.inr ⟨Or.inr ⟨rfl, rfl⟩, rfl, rfl⟩⟩
        unfold F_X5_arc F_X5_arc_b19
        refine Ob_i (needFiring_ok h1 hF) (if_i (if_pos hf) (Ob_i (needPlace_ok h2 hP) (if_i (if_pos hp) (G_i h3 ?_))))
        by_cases y : k < 0
        · exact if_i y rfl
        · exact el_i y (G_i (by omega) (el_i (by omega) rfl))
    · rw [if_neg (show ¬ ((0 ≤ f ∧ f < F) ∧ 0 ≤ p ∧ p < P) from fun z => hp z.2), e78 1 (by omega)] at mod
      refine ⟨(3, 0, sh, st, w, need, bo, em, tak, gi), _, ?_, mod, rfl, Or.inr ⟨Or.inl ⟨rfl, rfl⟩, rfl, rfl⟩⟩
      unfold F_X5_arc
      refine Ob_i (needFiring_ok h1 hF) (if_i (if_pos hf) (Ob_i (needPlace_ok h2 hP) ?_))
      rw [if_neg hp]
      exact el_i (by omega) rfl
  · rw [if_neg (show ¬ ((0 ≤ f ∧ f < F) ∧ 0 ≤ p ∧ p < P) from fun z => hf z.1), e78 1 (by omega)] at mod
    refine ⟨(3, 0, sh, st, w, need, bo, em, tak, gi), _, ?_, mod, rfl, Or.inr ⟨Or.inl ⟨rfl, rfl⟩, rfl, rfl⟩⟩
    unfold F_X5_arc
    refine Ob_i (needFiring_ok h1 hF) ?_
    rw [if_neg hf]
    exact el_i (by omega) rfl
