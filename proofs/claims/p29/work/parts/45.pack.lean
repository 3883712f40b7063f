/-! packing a firing's weights -/
theorem por {d : Nat → Nat} {z p : Int} (hz : 0 ≤ z ∧ z < 256) (hp : 0 ≤ p ∧ p < 6) (hd : ∀ i, i < p.toNat → d i < 256) (e : d p.toNat = z.toNat) : lN (sp d p.toNat) ||| lShl (lN z.toNat) (8 * p) = lN (sp d (p.toNat + 1)) := by
  have h1 := sp_lt p.toNat hd
  have h2 : 2 ^ (8 * p.toNat) ≤ 2 ^ 40 := Nat.pow_le_pow_right (by decide) (by omega)
  have h3 : 2 ^ (8 * p.toNat) * z.toNat ≤ 2 ^ 40 * 255 := Nat.mul_le_mul h2 (by omega)
  rw [lShl_ok (by omega) (by omega), show (8 * p).toNat = 8 * p.toNat by omega, Nat.mul_comm z.toNat, wb_or (by omega) (by omega), lor_new h1, sp, e]
theorem packed_ok {z p : Int} (hz : 0 ≤ z ∧ z < 256) : F_X3_packed z p = some (lShl (lN z.toNat) (8 * p)) := by
  unfold F_X3_packed
  rw [lI_nat hz.1 (by omega)]
/-- digits up to p are laid, at the place f; elsewhere nothing has changed -/
def laid (d : Int → Int) (f p : Int) (r0 r : Nat → Int64) : Prop := r f.toNat = lN (sp (pkd d) p.toNat) ∧ ∀ j, j ≠ f.toNat → r j = r0 j
theorem laid_next {d : Int → Int} {f p z : Int} {r0 r : Nat → Int64} (h : laid d f p r0 r) (hp : 0 ≤ p ∧ p < 6) (hb : bOk 256 d) (hz : d p = z) : laid d f (p + 1) r0 (uI r f.toNat (r f.toNat ||| lShl (lN z.toNat) (8 * p))) := by
  have hd := pkd_lt hb (by omega)
  refine ⟨?_, fun j hj => by rw [uI_ne _ _ hj]; exact h.2 j hj⟩
  rw [uI_same, h.1, show (p + 1).toNat = p.toNat + 1 by omega]
  have := hb p hp.1 hp.2
  exact por (by omega) hp (fun i hi => hd i (by omega)) (by unfold pkd; rw [show ((p.toNat : Nat) : Int) = p by omega, hz])
theorem laid_zero {d : Int → Int} {f p : Int} {r0 r : Nat → Int64} (h : laid d f p r0 r) (hp : 0 ≤ p ∧ p < 6) (hz : d p = 0) : laid d f (p + 1) r0 r := by
  refine ⟨?_, h.2⟩
  rw [h.1, show (p + 1).toNat = p.toNat + 1 by omega, sp]
  congr 1
  unfold pkd
  rw [show ((p.toNat : Nat) : Int) = p by omega, hz]
  rfl
theorem max_ok {x y : Int} (hx : inR x) (hy : inR y) : F_J9_max_7cf53 x y = some (if x < y then y else x) := by
  unfold F_J9_max_7cf53
  refine G_i ⟨hx, hy⟩ ?_
  split <;> rfl
theorem pack_ok {w : Nat → Int} {f : Int} {ne bo em ta gi : Nat → Int64} (hw : wOk w) (hf : 0 ≤ f ∧ f < 8) : ∃ r, F_X3_pack f w ne bo em ta gi = some r ∧ (r.1 f.toNat = pk (nzOf w f) ∧ r.2.1 f.toNat = pk (boOf w f) ∧ r.2.2.1 f.toNat = pk (emOf w f) ∧ r.2.2.2.1 f.toNat = pk (taOf w f) ∧ r.2.2.2.2 f.toNat = pk (giOf w f)) ∧ ∀ j, j ≠ f.toNat → r.1 j = ne j ∧ r.2.1 j = bo j ∧ r.2.2.1 j = em j ∧ r.2.2.2.1 j = ta j ∧ r.2.2.2.2 j = gi j := by
  have key : ∀ (n : Nat) (p : Int) (a1 a2 a3 a4 a5 : Nat → Int64), 0 ≤ p → p ≤ 6 → 6 - p < n → laid (nzOf w f) f p ne a1 → laid (boOf w f) f p bo a2 → laid (emOf w f) f p em a3 → laid (taOf w f) f p ta a4 → laid (giOf w f) f p gi a5 →
      ∃ r, F_X3_pack_b48 w n f p a1 a2 a3 a4 a5 = some r ∧ (laid (nzOf w f) f 6 ne r.1 ∧ laid (boOf w f) f 6 bo r.2.1 ∧ laid (emOf w f) f 6 em r.2.2.1 ∧ laid (taOf w f) f 6 ta r.2.2.2.1 ∧ laid (giOf w f) f 6 gi r.2.2.2.2) := by
    intro n
    induction n with
    | zero => intro p a1 a2 a3 a4 a5 h1 h2 h3; exact absurd h3 (by omega)
    | succ n ih =>
      intro p a1 a2 a3 a4 a5 h1 h2 h3 l1 l2 l3 l4 l5
      show ∃ r, F_X3_pack_b48_body w (F_X3_pack_b48 w n) f p a1 a2 a3 a4 a5 = some r ∧ _
      unfold F_X3_pack_b48_body
      refine G_e (by omega) ?_
      by_cases hp : 6 ≤ p
      · refine if_e hp (so_e ?_)
        obtain rfl : p = 6 := by omega
        exact ⟨l1, l2, l3, l4, l5⟩
      · refine el_e hp ?_
        have hp6 : 0 ≤ p ∧ p < 6 := by omega
        have w0 := hw.1 0 f p (by omega) (by omega) hf.1 hf.2 hp6.1 hp6.2
        have w1 := hw.1 1 f p (by omega) (by omega) hf.1 hf.2 hp6.1 hp6.2
        have w2 := hw.1 2 f p (by omega) (by omega) hf.1 hf.2 hp6.1 hp6.2
        have w3 := hw.1 3 f p (by omega) (by omega) hf.1 hf.2 hp6.1 hp6.2
        have w4 := hw.1 4 f p (by omega) (by omega) hf.1 hf.2 hp6.1 hp6.2
        refine Ob_e (wt3_ok (by omega) hf hp6) ?_
        refine Ob_e (wt3_ok (by omega) hf hp6) ?_
        refine G_e (by omega) (Bd_e ?_)
        refine Ob_e (wt3_ok (by omega) hf hp6) ?_
        refine Ob_e (max_ok (by omega) (by omega)) ?_
        have hm : 0 ≤ (if wt w 0 f p < wt w 2 f p then wt w 2 f p else wt w 0 f p) ∧ (if wt w 0 f p < wt w 2 f p then wt w 2 f p else wt w 0 f p) < 256 := by split <;> omega
        refine Ob_e (packed_ok hm) ?_
        refine Bd_e (G_e (by omega) (Bd_e (G_e (by omega) (Bd_e ?_))))
        have m1 := laid_next l1 hp6 (bOk_le (b_nz hw hf) (by omega)) rfl
        have tail2 : ∀ (x3 x4 : Nat → Int64) (x2 : Nat → Int64), laid (boOf w f) f (p + 1) bo x2 → laid (emOf w f) f (p + 1) em x3 → laid (taOf w f) f (p + 1) ta x4 → ∃ r, F_X3_pack_b166 w (F_X3_pack_b48 w n) f p (uI a1 f.toNat (a1 f.toNat ||| lShl (lN (nzOf w f p).toNat) (8 * p))) x2 x3 x4 a5 = some r ∧ (laid (nzOf w f) f 6 ne r.1 ∧ laid (boOf w f) f 6 bo r.2.1 ∧ laid (emOf w f) f 6 em r.2.2.1 ∧ laid (taOf w f) f 6 ta r.2.2.2.1 ∧ laid (giOf w f) f 6 gi r.2.2.2.2) := by
          intro x3 x4 x2 q2 q3 q4
          unfold F_X3_pack_b166
          refine G_e (by omega) (Bd_e ?_)
          refine Ob_e (wt3_ok (by omega) hf hp6) ?_
          refine Ob_e (packed_ok (by omega)) ?_
          refine Bd_e (G_e (by omega) (Bd_e (Bd_e ?_)))
          exact ih (p + 1) _ _ _ _ _ (by omega) (by omega) (by omega) m1 q2 q3 q4 (laid_next l5 hp6 (bOk_le (b_gi hw hf) (by omega)) rfl)
        have tail : ∀ z : Int, z = boOf w f p → ∃ r, F_X3_pack_b116 w (F_X3_pack_b48 w n) f p (wt w 0 f p) f (a2 f.toNat) z (uI a1 f.toNat (a1 f.toNat ||| lShl (lN (nzOf w f p).toNat) (8 * p))) a2 a3 a4 a5 = some r ∧ (laid (nzOf w f) f 6 ne r.1 ∧ laid (boOf w f) f 6 bo r.2.1 ∧ laid (emOf w f) f 6 em r.2.2.1 ∧ laid (taOf w f) f 6 ta r.2.2.2.1 ∧ laid (giOf w f) f 6 gi r.2.2.2.2) := by
          intro z hz
          have hb := b_bo hw hf p hp6.1 hp6.2
          unfold F_X3_pack_b116
          refine Ob_e (packed_ok (by omega)) ?_
          refine Bd_e (G_e (by omega) (Bd_e ?_))
          have m2 := laid_next l2 hp6 (bOk_le (b_bo hw hf) (by omega)) hz.symm
          refine Ob_e (wt3_ok (by omega) hf hp6) ?_
          refine G_e (by omega) ?_
          by_cases c : wt w 4 f p ≤ 0
          · refine if_e c (G_e (by omega) (Bd_e ?_))
            refine Ob_e (packed_ok (by omega)) ?_
            refine Bd_e (G_e (by omega) (Bd_e ?_))
            exact tail2 _ _ _ m2 (laid_zero l3 hp6 (by unfold emOf; rw [if_neg (by omega)])) (laid_next l4 hp6 (bOk_le (b_ta hw hf) (by omega)) (by unfold taOf; rw [if_neg (by omega)]))
          · refine el_e c (G_e (by omega) (Bd_e (Bd_e (G_e (by omega) (Bd_e ?_)))))
            have m3 := laid_next (z := 255) l3 hp6 b_em (by unfold emOf; rw [if_pos (by omega)])
            exact tail2 _ _ _ m2 m3 (laid_zero l4 hp6 (by unfold taOf; rw [if_pos (by omega)]))
        refine G_e (by omega) ?_
        by_cases c : wt w 3 f p ≤ 0
        · exact if_e c (tail 99 (by unfold boOf; rw [if_neg (by omega)]))
        · exact el_e c (tail _ (by unfold boOf; rw [if_pos (by omega)]))
  have z0 : ∀ (d : Int → Int) (r0 : Nat → Int64), laid d f 0 r0 (uI r0 f.toNat 0) := fun d r0 => ⟨by rw [uI_same]; rfl, fun j hj => uI_ne _ _ hj⟩
  unfold F_X3_pack
  (repeat (first | (with_reducible refine Bd_e ?_) | (with_reducible refine G_e ?_ ?_; · omega) | (with_reducible refine if_e ?_ ?_; · omega) | (with_reducible refine el_e ?_ ?_; · omega)))
  obtain ⟨r, h1, h2⟩ := key NN 0 _ _ _ _ _ (by omega) (by omega) (NN_gt (by omega)) (z0 _ ne) (z0 _ bo) (z0 _ em) (z0 _ ta) (z0 _ gi)
  exact ⟨r, h1, ⟨h2.1.1, h2.2.1.1, h2.2.2.1.1, h2.2.2.2.1.1, h2.2.2.2.2.1⟩, fun j hj => ⟨h2.1.2 j hj, h2.2.1.2 j hj, h2.2.2.1.2 j hj, h2.2.2.2.1.2 j hj, h2.2.2.2.2.2 j hj⟩⟩
