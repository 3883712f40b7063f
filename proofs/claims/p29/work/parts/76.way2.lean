/-! the law's isWaySo -/
theorem way_less {P F D D2 L L2 x z n : Int} {tok tok2 w lg lg2 : Nat → Int} {q q2 : Int × (Nat → Int) × (Nat → Int) × (Nat → Int) × (Nat → Int)} {i : Int} {f v2 : Int} (hP : 0 ≤ P ∧ P ≤ 6) (hF : 0 ≤ F ∧ F ≤ 8) (hx : 0 ≤ x ∧ x < P) (hn : 1 ≤ n) (hz : z ≤ row q.2.1 i x) (hb : beg P F w (tk tok) (row q.2.1 i) n f) (he : eqP P (tk tok2) (aftM w (tk tok) f)) (h2 : GQ P F tok2 w q2)
    (hc : (q2.1 = -1 ∧ v2 = -1) ∨ (q2.1 ≠ -1 ∧ v2 = -1 ∧ ∀ m : Int, 0 ≤ m → m < q2.1 → row q2.2.1 m x < z) ∨ (q2.1 ≠ -1 ∧ ∃ i : Int, (0 ≤ i ∧ i < q2.1) ∧ v2 = dep q2.2.2.1 i.toNat ∧ z ≤ row q2.2.1 i x ∧ ∀ m : Int, 0 ≤ m → m < i → row q2.2.1 m x < z)) : v2 ≤ n - 1 := by
  rcases hc with ⟨-, h⟩ | ⟨-, h, -⟩ | ⟨h0, j, j1, j2, j3, j4⟩
  · omega
  · omega
  · rcases h2.2 with ⟨a, -⟩ | ⟨-, a⟩
    · exact absurd a h0
    · obtain ⟨hf, hcan, v, v1, v3⟩ := hb
      have hD := dep_DE a
      obtain ⟨k, k1, k2, k3⟩ := in_graph a hF.2 hD _ _ (RJ_st (eqP_tr v1 (eqP_sm he)) v3)
      have hjk : j ≤ k := by
        refine Decidable.byContradiction fun y => ?_
        have := j4 k k1.1 (by omega)
        rw [k2 x hx.1 hx.2] at this
        omega
      have := de_mono a hF.2 hD (k.toNat + 1) j k j1.1 hjk k1.2 (by omega)
      omega
theorem way_loop {cl : Nat} {P F L x z : Int} {w lg : Nat → Int} (hx : 0 ≤ x ∧ x < P) (hz : 0 ≤ z ∧ z ≤ 99) (hcl : cl ≤ 800000) :
    ∀ (fu : Nat) (n k D : Int) (tok : Nat → Int) (kc : Nat), 0 ≤ k → k ≤ 8 → 8 - k < fu → (kc : Int) ≤ 10 + 6 * k → EA (cl + kc) (P, F, D, L, tok, w, lg) → ax_way x z (P, F, D, L, tok, w, lg) = some (n, (P, F, D, L, tok, w, lg)) → ∃ r, F_L_isWaySo_b100 fu x z n 1 k (P, F, D, L, tok, w, lg) kc = some r ∧ r.1 = 1 := by
  intro fu
  induction fu with
  | zero => intro n k D tok kc h1 h2 h3; exact absurd h3 (by omega)
  | succ fu ih =>
    intro n k D tok kc h1 h2 h3 h4 hE hw
    obtain ⟨hP, hF, w1, w2, w3, w4, w5⟩ := EA_WA hE
    dsimp only at hP hF w1 w2 w3 w4 w5
    have ex := sx_id (x := x) (by omega)
    have ez := sx_id (x := z) (by omega)
    obtain ⟨q, hq⟩ := GQ_of w1 hP hF w3
    obtain ⟨r0, a1, -, a2, -⟩ := ea_way hE (by omega : inR x) (by omega : inR z) (by omega)
    obtain rfl : r0 = _ := Option.some.inj (a1.symm.trans hw)
    dsimp only at a2
    obtain ⟨v, b1, b2⟩ := v_way (D := D) (L := L) (lg := lg) hP hq hx hz
    obtain rfl : v = n := congrArg Prod.fst (Option.some.inj (b1.symm.trans hw))
    show ∃ r, F_L_isWaySo_b100_body (F_L_isWaySo_b100 fu) x z v 1 k (P, F, D, L, tok, w, lg) kc = some r ∧ r.1 = 1
    unfold F_L_isWaySo_b100_body
    refine G_e (by omega) ?_
    by_cases c8 : 8 ≤ k
    · refine if_e c8 ?_
      unfold F_L_isWaySo_b217
      exact G_e (by omega) (G_e (Or.inr rfl) (so_e rfl))
    · refine el_e c8 (G_e (by omega) (el_e (by omega) (G_e a2 ?_)))
      by_cases n0 : v ≤ 0
      · refine if_e n0 ?_
        unfold F_L_isWaySo_b127
        refine G_e (by omega) (el_e (by omega) (G_e a2 (if_e n0 ?_)))
        unfold F_L_isWaySo_b153 F_L_isWaySo_b158
        refine G_e (by omega) (el_e (by omega) (G_e a2 (if_e n0 ?_)))
        unfold F_L_isWaySo_b211
        exact Bd_e (ih v (k + 1) D tok kc (by omega) (by omega) (by omega) (by omega) hE hw)
      · rcases b2 with ⟨-, h⟩ | ⟨-, h, -⟩ | ⟨q0, i, i1, i2, i3, i4, i5, i6⟩
        · exact absurd h (by omega)
        · exact absurd h (by omega)
        · obtain ⟨f, f1, f2⟩ := i6 (by omega)
          obtain ⟨tok2, t1, t2⟩ := v_fire (D := D) (L := L) (lg := lg) w1 hP hF w3 f2.1 f2.2.1
          have hcan := v_can (D := D) (L := L) (lg := lg) w1 hP hF w3 f2.1 f2.2.1
          have ef := sx_id (x := f) (by have := f2.1; omega)
          have hf := f2.1
          -- the state behind the firing
          obtain ⟨r1, d1, d2, -, -⟩ := ea_fire (EA_le (by omega : cl + kc ≤ cl + (kc + 1 + 1)) hE) (by omega : inR f) (by omega)
          obtain rfl : r1 = _ := Option.some.inj (d1.symm.trans (dx_fire_ax t1))
          dsimp only at d2
          obtain ⟨q2, hq2⟩ := GQ_of w1 hP hF (EA_WA d2).2.2.2.2.1
          obtain ⟨v2, c1, c2⟩ := v_way (D := D + 1) (L := L) (lg := lg) hP hq2 hx hz
          have hless : v2 ≤ v - 1 := way_less (D := D) (D2 := D) (L := L) (L2 := L) (lg := lg) (lg2 := lg) hP hF hx (by omega) i3 f2 t2 hq2 (by
            rcases c2 with h | h | ⟨h, j, j1, j2, j3, j4, -⟩
            · exact Or.inl h
            · exact Or.inr (Or.inl h)
            · exact Or.inr (Or.inr ⟨h, j, j1, j2, j3, j4⟩))
          obtain ⟨r2, g1, -, g2, -⟩ := ea_way d2 (by omega : inR x) (by omega : inR z) (by omega)
          obtain rfl : r2 = _ := Option.some.inj (g1.symm.trans c1)
          dsimp only at g2
          refine el_e n0 (G_e (by omega) ?_)
          rw [ex, ez]
          refine Ob_e f1 ?_
          unfold F_L_isWaySo_b127
          refine G_e (by dsimp only; omega) (if_e (by dsimp only; omega) ?_)
          unfold F_L_isWaySo_b138
          refine G_e (by dsimp only; omega) (el_e (by dsimp only; omega) (G_e (by omega) ?_))
          dsimp only
          rw [ef]
          refine Ob_e hcan (G_e (by dsimp only; omega) (if_e rfl ?_))
          unfold F_L_isWaySo_b153 F_L_isWaySo_b158
          refine G_e (by omega) (el_e (by omega) (G_e a2 (el_e n0 (G_e (by omega) ?_))))
          rw [ef, ex, ez]
          refine Ob_e t1 (Bd_e (G_e (by omega) (Ob_e c1 (G_e ⟨g2, by omega⟩ (if_e (by dsimp only; omega) ?_)))))
          unfold F_L_isWaySo_b197 F_L_isWaySo_b202
          rw [ex, ez]
          refine G_e (by omega) (Ob_e c1 ?_)
          unfold F_L_isWaySo_b211
          exact Bd_e (ih v2 (k + 1) (D + 1) tok2 _ (by omega) (by omega) (by omega) (by omega) (EA_le (by omega) d2) c1)
theorem way_so {cl : Nat} {P F D L x z : Int} {tok w lg : Nat → Int} (hx : 0 ≤ x ∧ x < P) (hz : 0 ≤ z ∧ z ≤ 99) (hcl : cl ≤ 800000) (hE : EA cl (P, F, D, L, tok, w, lg)) : ∃ r, F_L_isWaySo x z (P, F, D, L, tok, w, lg) 0 = some r ∧ r.1 = 1 := by
  obtain ⟨hP, hF, w1, w2, w3, w4, w5⟩ := EA_WA hE
  dsimp only at hP hF w1 w2 w3 w4 w5
  have ex := sx_id (x := x) (by omega)
  have ez := sx_id (x := z) (by omega)
  obtain ⟨q, hq⟩ := GQ_of w1 hP hF w3
  have hqr := GQ_in hq
  obtain ⟨v, b1, b2⟩ := v_way (D := D) (L := L) (lg := lg) hP hq hx hz
  obtain ⟨r0, a1, -, a2, -⟩ := ea_way hE (by omega : inR x) (by omega : inR z) (by omega)
  obtain rfl : r0 = _ := Option.some.inj (a1.symm.trans b1)
  dsimp only at a2
  obtain ⟨g, g1, g2⟩ := v_graph (D := D) (L := L) (lg := lg) (x := 0) hF hq (by omega)
  have hg : g = q.1 := by
    rcases g2 with ⟨h1, h2⟩ | ⟨-, h2, -⟩
    · omega
    · exact h2 rfl
  obtain ⟨m, -, m1, m2⟩ := v_most (D := D) (L := L) (lg := lg) hP hq hx
  have hm : -1 ≤ m ∧ m ≤ 99 := by
    rcases m2 with ⟨-, h⟩ | ⟨-, h, -⟩ <;> omega
  unfold F_L_isWaySo
  rw [ex, ez]
  refine G_e (by omega) (Ob_e b1 (G_e (by omega) (Ob_e g1 (G_e a2 ?_))))
  rcases b2 with ⟨h1, h2⟩ | ⟨h1, h2, h3⟩ | ⟨q0, i, i1, i2, i3, i4, i5, i6⟩
  · -- too great
    refine el_e (by dsimp only; omega) (G_e ⟨a2, by omega⟩ (el_e (by dsimp only; omega) (G_e (by dsimp only; omega) (if_e (by dsimp only; omega) ?_))))
    unfold F_L_isWaySo_b38
    exact G_e (by omega) (G_e (Or.inr rfl) (so_e rfl))
  · -- no way
    have hlt : ¬ z ≤ m := by
      rcases m2 with ⟨h4, -⟩ | ⟨-, -, -, k, k1, k2⟩
      · exact absurd h4 h1
      · have := h3 k k1.1 k1.2
        omega
    have hq0 : 0 ≤ q.1 := by
      rcases hq.2 with ⟨a, -⟩ | ⟨-, a⟩
      · exact absurd a h1
      · have := a.1.1
        omega
    refine el_e (by dsimp only; omega) (G_e ⟨a2, by omega⟩ (el_e (by dsimp only; omega) (G_e (by dsimp only; omega) (el_e (by dsimp only; omega) (G_e (by omega) (Ob_e m1 (G_e (by dsimp only; omega) (el_e hlt ?_))))))))
    unfold F_L_isWaySo_b38
    exact G_e (by omega) (G_e (Or.inr rfl) (so_e rfl))
  · -- a way
    have hB : BF P F w tok q.1 (8 * q.1) q.2.1 q.2.2.1 q.2.2.2.1 q.2.2.2.2 := by
      rcases hq.2 with ⟨a, -⟩ | ⟨-, a⟩
      · exact absurd a q0
      · exact a
    have hD := dep_DE hB
    have hv0 : 0 ≤ v := by
      rw [i2]
      exact hD.2.2 i i1.1 i1.2
    have hge : ¬ m < z := by
      rcases m2 with ⟨h4, -⟩ | ⟨-, -, h5, -⟩
      · exact absurd h4 q0
      · have := h5 i i1.1 i1.2
        omega
    have ev := sx_id a2
    have htok := w3 x hx.1 hx.2
    have htx : tk tok x = tok x.toNat := rfl
    rw [htx] at htok
    -- none to go, just if there are so many now
    have hiff : 0 < v ↔ tok x.toNat < z := by
      have e0 : row q.2.1 0 x = tok x.toNat := hB.1.2 x hx.1 hx.2
      constructor
      · intro h
        have : i ≠ 0 := fun y => by
          rw [i2, y, show (0 : Int).toNat = 0 from rfl, hD.1] at h
          omega
        have := i4 0 (by omega) (by omega)
        omega
      · intro h
        have : i ≠ 0 := fun y => by
          rw [y, e0] at i3
          omega
        have := hD.2.1 i (by omega) i1.2
        have := hD.2.2 (q.2.2.1 i.toNat) (hB.2.2.1 i (by omega) i1.2).1.1 (by have := (hB.2.2.1 i (by omega) i1.2).1; omega)
        omega
    refine if_e hv0 (G_e (by omega) ?_)
    dsimp only
    rw [ev]
    refine Ob_e (i5 v a2 hv0 (Int.le_refl _)) (G_e (by dsimp only; omega) (if_e rfl (G_e (by omega) (Ob_e m1 (G_e (by dsimp only; omega) (el_e hge (G_e a2 ?_)))))))
    have tail : ∀ (s : Int), (s = 0 ∨ s = 1) → ((s = 1) ↔ 0 < v) → ∀ kc : Nat, kc ≤ 4 → ∃ r, F_L_isWaySo_b73 x z v s (P, F, D, L, tok, w, lg) kc = some r ∧ r.1 = 1 := fun s s1 s2 kc hkc => by
      unfold F_L_isWaySo_b73
      rw [ex]
      refine G_e (by omega) (Ob_e (v_tokens hP hx) (G_e (by dsimp only; omega) ?_))
      have go : ∀ kc : Nat, kc ≤ 5 → ∃ r, F_L_isWaySo_b95 x z v 1 (P, F, D, L, tok, w, lg) kc = some r ∧ r.1 = 1 := fun kc hkc => by
        unfold F_L_isWaySo_b95
        exact way_loop hx hz hcl NN v 0 D tok kc (by omega) (by omega) (NN_gt (by omega)) (by omega) (EA_le (by omega) hE) b1
      by_cases y : z ≤ tok x.toNat
      · refine if_e y ?_
        unfold F_L_isWaySo_b87
        exact G_e (by omega) (if_e (by omega) (go _ (by omega)))
      · refine el_e y ?_
        unfold F_L_isWaySo_b87
        exact G_e (by omega) (if_e (by omega) (go _ (by omega)))
    by_cases y : v ≤ 0
    · exact if_e y (tail 0 (Or.inl rfl) (by omega) _ (by omega))
    · exact el_e y (tail 1 (Or.inr rfl) (by omega) _ (by omega))
