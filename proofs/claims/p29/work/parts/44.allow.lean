theorem behind_ok {F : Int} {w : Nat → Int} {t : Int → Int} {f : Int} {ne bo em ta gi : Nat → Int64} (hp : packed F w ne bo em ta gi) (hw : wOk w) (hF : F ≤ 8) (hf : 0 ≤ f ∧ f < F) (ht : bOk 128 t) (hd : ∀ p : Int, 0 ≤ p → p < 6 → wt w 0 f p ≤ t p) (hd2 : bOk 103 t) : F_X3_behind (pk t) f em ta gi = some (pk (aftM w t f)) := by
  obtain ⟨-, -, e1, e2, e3⟩ := hp f hf.1 hf.2
  have hf8 : 0 ≤ f ∧ f < 8 := by omega
  unfold F_X3_behind
  (repeat (first | (with_reducible refine Bd_i ?_) | (with_reducible refine G_i ?_ ?_; · omega) | (with_reducible refine if_i ?_ ?_; · omega) | (with_reducible refine el_i ?_ ?_; · omega)))
  rw [e1, e2, e3, clr_ok (bOk_le ht (by omega)) (fun p h1 h2 => by unfold emOf; split <;> omega)]
  have b1 := pkd_lt (bOk_le ht (by omega : (128 : Int) ≤ 256)) (by omega)
  have hs : ∀ i, i < 6 → pkd (taOf w f) i ≤ pkd (clr t (emOf w f)) i ∧ pkd (clr t (emOf w f)) i - pkd (taOf w f) i + pkd (giOf w f) i = pkd (aftM w t f) i := fun i hi => by
    have w4 := hw.1 4 f i (by omega) (by omega) hf8.1 hf8.2 (by omega) (by omega)
    have w4' := hw.2 f i hf8.1 hf8.2 (by omega) (by omega)
    have w0 := hw.1 0 f i (by omega) (by omega) hf8.1 hf8.2 (by omega) (by omega)
    have w1 := hw.1 1 f i (by omega) (by omega) hf8.1 hf8.2 (by omega) (by omega)
    have h3 := hd i (by omega) (by omega)
    have h4 := ht i (by omega) (by omega)
    rw [pkd_clr]
    unfold pkd emOf taOf giOf aftM aft
    by_cases c : 0 < wt w 4 f i
    · rw [if_pos c, if_pos c, if_pos rfl, if_pos (by omega : wt w 4 f i = 1)]
      omega
    · rw [if_neg c, if_neg c, if_neg (by omega), if_neg (by omega : ¬ wt w 4 f i = 1)]
      omega
  have h1 := sp_sub (a := pkd (clr t (emOf w f))) (b := pkd (taOf w f)) 6 (fun i hi => (hs i hi).1)
  unfold pk
  rw [lN_sub h1.2, h1.1, lN_add, sp_add, sp_cong 6 (fun i hi => (hs i hi).2)]
theorem full_eq : (109278520370019 : Int64) = pk (fun _ => 99) := by decide
theorem b_99 : bOk 128 (fun _ => 99) := fun p h1 h2 => by show (0 : Int) ≤ 99 ∧ (99 : Int) < 128; omega
/-- the class's test of a firing is the document's -/
theorem allows_ok {P F : Int} {w : Nat → Int} {t : Int → Int} {f : Int} {ne bo em ta gi : Nat → Int64} (hp : packed F w ne bo em ta gi) (hw : wOk w) (ho : wOut P w) (hP : 0 ≤ P ∧ P ≤ 6) (hF : F ≤ 8) (hf : 0 ≤ f ∧ f < F) (ht : bOk 100 t) (h0 : ∀ p : Int, P ≤ p → p < 6 → t p = 0) : ∃ r, F_X3_allows (pk t) f ne bo em ta gi = some r ∧ isB r (can P w t f) := by
  obtain ⟨e1, e2, -, -, -⟩ := hp f hf.1 hf.2
  have hf8 : 0 ≤ f ∧ f < 8 := by omega
  have ht8 : bOk 128 t := bOk_le ht (by omega)
  unfold F_X3_allows F_X3_allows_b55
  (repeat (first | (with_reducible refine Bd_e ?_) | (with_reducible refine G_e ?_ ?_; · omega) | (with_reducible refine if_e ?_ ?_; · omega) | (with_reducible refine el_e ?_ ?_; · omega)))
  obtain ⟨r1, g1, i1⟩ := isAtMost_ok (b_nz hw hf8) ht8
  rw [e1]
  refine Ob_e g1 ?_
  have wB : ∀ k p : Int, 0 ≤ k → k < 5 → 0 ≤ p → p < 6 → 0 ≤ wt w k f p ∧ wt w k f p ≤ 3 := fun k p h1 h2 h3 h4 => hw.1 k f p h1 h2 hf8.1 hf8.2 h3 h4
  rcases i1 with ⟨rfl, i1⟩ | ⟨rfl, i1⟩
  · (repeat (first | (with_reducible refine Bd_e ?_) | (with_reducible refine G_e ?_ ?_; · omega) | (with_reducible refine if_e ?_ ?_; · omega) | (with_reducible refine el_e ?_ ?_; · omega)))
    obtain ⟨r2, g2, i2⟩ := isAtMost_ok ht8 (b_bo hw hf8)
    rw [e2]
    refine Ob_e g2 ?_
    have n1 : ∀ p : Int, 0 ≤ p → p < 6 → wt w 0 f p ≤ t p ∧ wt w 2 f p ≤ t p := fun p h1 h2 => by
      have := i1 p h1 h2
      unfold nzOf at this
      split at this <;> omega
    rcases i2 with ⟨rfl, i2⟩ | ⟨rfl, i2⟩
    · (repeat (first | (with_reducible refine Bd_e ?_) | (with_reducible refine G_e ?_ ?_; · omega) | (with_reducible refine if_e ?_ ?_; · omega) | (with_reducible refine el_e ?_ ?_; · omega)))
      refine Ob_e (behind_ok hp hw hF hf ht8 (fun p h1 h2 => (n1 p h1 h2).1) (bOk_le ht (by omega))) ?_
      have hab : bOk 128 (aftM w t f) := fun p h1 h2 => by
        have a0 := wB 0 p (by omega) (by omega) h1 h2
        have a1 := wB 1 p (by omega) (by omega) h1 h2
        have a2 := n1 p h1 h2
        have a3 := ht p h1 h2
        unfold aftM aft
        split <;> omega
      obtain ⟨r3, g3, i3⟩ := isAtMost_ok hab b_99
      rw [full_eq]
      refine Ob_e g3 ?_
      have n2 : ∀ p : Int, 0 ≤ p → p < 6 → wt w 3 f p = 0 ∨ t p < wt w 3 f p := fun p h1 h2 => by
        have q1 := i2 p h1 h2
        have q2 := wB 3 p (by omega) (by omega) h1 h2
        unfold boOf at q1
        split at q1 <;> omega
      rcases i3 with ⟨rfl, i3⟩ | ⟨rfl, i3⟩
      · (repeat (first | (with_reducible refine Bd_e ?_) | (with_reducible refine G_e ?_ ?_; · omega) | (with_reducible refine if_e ?_ ?_; · omega) | (with_reducible refine el_e ?_ ?_; · omega)))
        exact so_e (Or.inl ⟨rfl, fun p h1 h2 => ⟨(n1 p h1 (by omega)).1, (n1 p h1 (by omega)).2, n2 p h1 (by omega), i3 p h1 (by omega)⟩⟩)
      · (repeat (first | (with_reducible refine Bd_e ?_) | (with_reducible refine G_e ?_ ?_; · omega) | (with_reducible refine if_e ?_ ?_; · omega) | (with_reducible refine el_e ?_ ?_; · omega)))
        refine so_e (Or.inr ⟨rfl, fun z => i3 (fun p h1 h2 => ?_)⟩)
        by_cases hpP : p < P
        · exact (z p h1 hpP).2.2.2
        · have o0 := ho 0 f p (by omega) (by omega) hf8.1 hf8.2 (by omega) h2
          have o1 := ho 1 f p (by omega) (by omega) hf8.1 hf8.2 (by omega) h2
          have o4 := ho 4 f p (by omega) (by omega) hf8.1 hf8.2 (by omega) h2
          have t0 := h0 p (by omega) h2
          unfold aftM aft
          rw [o0, o1, o4, t0]
          decide
    · (repeat (first | (with_reducible refine Bd_e ?_) | (with_reducible refine G_e ?_ ?_; · omega) | (with_reducible refine if_e ?_ ?_; · omega) | (with_reducible refine el_e ?_ ?_; · omega)))
      refine so_e (Or.inr ⟨rfl, fun z => i2 (fun p h1 h2 => ?_)⟩)
      have a3 := wB 3 p (by omega) (by omega) h1 h2
      have a4 := ht p h1 h2
      unfold boOf
      by_cases hpP : p < P
      · have := (z p h1 hpP).2.2.1
        split <;> omega
      · have o3 := ho 3 f p (by omega) (by omega) hf8.1 hf8.2 (by omega) h2
        have t0 := h0 p (by omega) h2
        rw [o3, t0]
        decide
  · (repeat (first | (with_reducible refine Bd_e ?_) | (with_reducible refine G_e ?_ ?_; · omega) | (with_reducible refine if_e ?_ ?_; · omega) | (with_reducible refine el_e ?_ ?_; · omega)))
    refine so_e (Or.inr ⟨rfl, fun z => i1 (fun p h1 h2 => ?_)⟩)
    have a4 := ht p h1 h2
    unfold nzOf
    by_cases hpP : p < P
    · have := z p h1 hpP
      have q1 := this.1
      have q2 := this.2.1
      split <;> omega
    · have o0 := ho 0 f p (by omega) (by omega) hf8.1 hf8.2 (by omega) h2
      have o2 := ho 2 f p (by omega) (by omega) hf8.1 hf8.2 (by omega) h2
      have t0 := h0 p (by omega) h2
      rw [o0, o2, t0]
      decide
