/-! isSo is true of every net -/
theorem cnt_mono {F : Int} {ld : Nat → Int} : ∀ (j a : Nat), cntE F ld a ≤ cntE F ld (a + j)
  | 0, a => Int.le_refl _
  | j + 1, a => by
    have h := cnt_mono (F := F) (ld := ld) j a
    show cntE F ld a ≤ cntE F ld (a + j + 1)
    rw [cntE]
    split <;> omega
section SO
variable {P F : Int} {w tok : Nat → Int}
/-- so many firings that can be done as there are markings but the first one -/
theorem cnt_tree {n : Int} {mk wh by_ ld : Nat → Int} (h : BF P F w tok n (8 * n) mk wh by_ ld) (hF : F ≤ 8) : n - 1 ≤ cntE F ld (8 * n).toNat := by
  have hn := h.1.1
  have key : ∀ k : Nat, 1 ≤ k → (k : Int) < n → (k : Int) ≤ cntE F ld ((8 * wh k + by_ k).toNat + 1) := by
    intro k
    induction k with
    | zero => intro h1; exact absurd h1 (by omega)
    | succ k ih =>
      intro _ h2
      obtain ⟨a, c, e⟩ := h.2.2.1 ((k + 1 : Nat) : Int) (by omega) h2
      rw [Int.toNat_natCast] at a c e
      have hl := ((h.2.2.2.2 (wh (k + 1)) (by_ (k + 1)) a.1 (by omega) a.2.2.1 a.2.2.2.1 (by omega)).1 c).1
      have one : cntE F ld ((8 * wh (k + 1) + by_ (k + 1)).toNat + 1) = cntE F ld (8 * wh (k + 1) + by_ (k + 1)).toNat + 1 := by
        rw [cntE, if_pos ⟨by omega, by omega⟩]
      rw [one]
      by_cases q : k = 0
      · have := (cntE_b (F := F) (ld := ld) (8 * wh (k + 1) + by_ (k + 1)).toNat).1
        omega
      · have i := ih (by omega) (by omega)
        have d := h.2.2.2.1 (k : Int) ((k + 1 : Nat) : Int) (by omega) (by omega) h2
        have a' := (h.2.2.1 (k : Int) (by omega) (by omega)).1
        rw [Int.toNat_natCast] at a'
        rw [Int.toNat_natCast, Int.toNat_natCast] at d
        have m := cnt_mono (F := F) (ld := ld) ((8 * wh (k + 1) + by_ (k + 1)).toNat - ((8 * wh k + by_ k).toNat + 1)) ((8 * wh k + by_ k).toNat + 1)
        rw [show (8 * wh k + by_ k).toNat + 1 + ((8 * wh (k + 1) + by_ (k + 1)).toNat - ((8 * wh k + by_ k).toNat + 1)) = (8 * wh (k + 1) + by_ (k + 1)).toNat by omega] at m
        omega
  by_cases q : n = 1
  · have := (cntE_b (F := F) (ld := ld) (8 * n).toNat).1
    omega
  · have k1 := key (n - 1).toNat (by omega) (by omega)
    obtain ⟨a, -, -⟩ := h.2.2.1 (((n - 1).toNat : Nat) : Int) (by omega) (by omega)
    rw [Int.toNat_natCast] at a
    have m := cnt_mono (F := F) (ld := ld) ((8 * n).toNat - ((8 * wh (n - 1).toNat + by_ (n - 1).toNat).toNat + 1)) ((8 * wh (n - 1).toNat + by_ (n - 1).toNat).toNat + 1)
    rw [show (8 * wh (n - 1).toNat + by_ (n - 1).toNat).toNat + 1 + ((8 * n).toNat - ((8 * wh (n - 1).toNat + by_ (n - 1).toNat).toNat + 1)) = (8 * n).toNat by omega] at m
    omega
/-- with an idle firing there is no end -/
theorem no_end {n f : Int} {mk wh by_ ld : Nat → Int} (h : BF P F w tok n (8 * n) mk wh by_ ld) (hF : F ≤ 8) (hf : 0 ≤ f ∧ f < F) (hi : idle P w f) : ∀ m : Nat, (m : Int) ≤ n → endsE F ld m = 0
  | 0, _ => rfl
  | m + 1, hm => by
    have ih := no_end h hF hf hi m (by omega)
    have hl := ((h.2.2.2.2 (m : Int) f (by omega) (by omega) hf.1 hf.2 (by omega)).1 (idle_can hi (h.2.1.1 (m : Int) (by omega) (by omega)))).1
    have one : cntE F ld ((8 * (m : Int) + f).toNat + 1) = cntE F ld (8 * (m : Int) + f).toNat + 1 := by
      rw [cntE, if_pos ⟨by omega, by omega⟩]
    have m1 := cnt_mono (F := F) (ld := ld) f.toNat (8 * m)
    have m2 := cnt_mono (F := F) (ld := ld) (7 - f.toNat) ((8 * (m : Int) + f).toNat + 1)
    rw [show 8 * m + f.toNat = (8 * (m : Int) + f).toNat by omega] at m1
    rw [show (8 * (m : Int) + f).toNat + 1 + (7 - f.toNat) = 8 * (m + 1) by omega] at m2
    rw [endsE, ih, if_neg (by omega)]
    rfl
def ON (o : Option (Int × AS × Nat)) : Prop := ∃ r, o = some r ∧ r.1 = 1
variable {c : Nat} {D L : Int} {lg : Nat → Int}
theorem so_379 (E : EA c (P, F, D, L, tok, w, lg)) (hc : c ≤ 700000) (hP3 : 3 ≤ P) (v : Int) (kc : Nat) (hk : kc ≤ 300) : ON (F_L_isSo_b379 v 1 (P, F, D, L, tok, w, lg) kc) := by
  obtain ⟨r1, l1, l2, l3⟩ := low_ok (iShr v 3) (n := 3) (by omega)
  obtain ⟨r2, n1, n2, n3⟩ := low_ok (iShr v 6) (n := 6) (by omega)
  obtain ⟨r, h1, h2⟩ := way_so (x := r1) (z := r2) (by omega) (by omega) (by omega) E
  have e1 := sx_id (x := r1) (by omega)
  have e2 := sx_id (x := r2) (by omega)
  unfold F_L_isSo_b379
  refine G_e (by omega) (el_e (by omega) (G_e (by omega) (Ob_e l1 (G_e (by omega) (Ob_e n1 (G_e (by omega) ?_))))))
  rw [e1, e2]
  exact Ob_e h1 (G_e (by omega) (el_e (by omega) (G_e (by omega) (G_e (Or.inr rfl) (so_e rfl)))))
theorem so_281 (E : EA c (P, F, D, L, tok, w, lg)) (hc : c ≤ 700000) (hP3 : 3 ≤ P) (v : Int) : ∀ (fu : Nat) (k : Int) (kc : Nat), 0 ≤ k → k ≤ 6 → 6 - k < fu → (kc : Int) ≤ 100 + 8 * k → ON (F_L_isSo_b281 fu v 1 k (P, F, D, L, tok, w, lg) kc) := by
  obtain ⟨hP, hF, w1, -, -, -, -⟩ := EA_WA E
  dsimp only at hP hF w1
  have h64 := (p2_64 hP).2
  have hlen := kSi_len (P := P) (F := F) (w := w) (c := 2 ^ P.toNat) h64
  intro fu
  induction fu with
  | zero => intro k kc h1 h2 h3; exact absurd h3 (by omega)
  | succ fu ih =>
    intro k kc h1 h2 h3 h4
    show ON (F_L_isSo_b281_body (F_L_isSo_b281 fu) v 1 k (P, F, D, L, tok, w, lg) kc)
    unfold F_L_isSo_b281_body
    refine G_e (by omega) (Ob_e (v_siphons w1 hP hF) (G_e (by dsimp only; omega) ?_))
    by_cases c1 : ((kSi P F w (2 ^ P.toNat)).length : Int) ≤ k
    · exact if_e c1 (so_379 E hc hP3 v _ (by omega))
    · refine el_e c1 (G_e (by omega) ?_)
      by_cases c6 : 6 ≤ k
      · exact if_e c6 (so_379 E hc hP3 v _ (by omega))
      · have hk : k.toNat < (kSi P F w (2 ^ P.toNat)).length := by omega
        have hat := kSi_at hk
        have S1 := v_siphon (P := P) (F := F) (D := D) (L := L) (tok := tok) (lg := lg) (x := k) w1 hP hF (by omega)
        generalize hs : (kSi P F w (2 ^ P.toNat)).getD k.toNat 0 = s at hat S1
        have hsub := itT_sub (P := P) (F := F) (w := w) 6 s (by omega)
        have hle := sub_le hsub
        have hid := itT_idem (P := P) (F := F) (w := w) (s := s) (by omega)
        have T1 := v_trap (P := P) (F := F) (D := D) (L := L) (tok := tok) (lg := lg) (s := s) w1 hP hF hat.2
        have T2 := v_trap (P := P) (F := F) (D := D) (L := L) (tok := tok) (lg := lg) (s := itT P F w 6 s) w1 hP hF (by omega)
        rw [hid] at T2
        have hdz : dif (itT P F w 6 s) s = 0 := Decidable.byContradiction fun z => (dif_ne (by omega)).mp z hsub
        have e1 := sx_id (x := k) (by omega)
        have e2 := sx_id (x := (s : Int)) (by omega)
        have e3 := sx_id (x := ((itT P F w 6 s : Nat) : Int)) (by omega)
        have e4 := sx_id (x := k - 1) (by omega)
        refine el_e c6 (G_e (by omega) (el_e (by omega) (G_e (by omega) ?_)))
        dsimp only
        rw [e1]
        refine Ob_e S1 (G_e (by dsimp only; omega) (el_e (by dsimp only; omega) (G_e (by omega) ?_)))
        dsimp only
        rw [e2]
        refine Ob_e T1 (Bd_e ?_)
        dsimp only
        rw [iNot_n (by omega), hdz]
        refine G_e (by omega) (if_e rfl (G_e (by omega) (Ob_e T1 (G_e (by omega) ?_))))
        dsimp only
        rw [e3]
        refine Ob_e T2 (G_e (by omega) (Ob_e T1 (G_e (by dsimp only; omega) (if_e rfl (G_e (by omega) ?_)))))
        have nx : ∀ kc' : Nat, (kc' : Int) ≤ 100 + 8 * (k + 1) → ON (F_L_isSo_b366 (F_L_isSo_b281 fu) v k (P, F, D, L, tok, w, lg) kc') := fun kc' hk' => by
          unfold F_L_isSo_b366 F_L_isSo_b371
          exact Bd_e (ih (k + 1) kc' (by omega) (by omega) (by omega) hk')
        by_cases k0 : k = 0
        · exact if_e k0 (nx _ (by omega))
        · have hk1 : (k - 1).toNat < (kSi P F w (2 ^ P.toNat)).length := by omega
          have S2 := v_siphon (P := P) (F := F) (D := D) (L := L) (tok := tok) (lg := lg) (x := k - 1) w1 hP hF (by omega)
          have up := kSi_up (P := P) (F := F) (w := w) (i := (k - 1).toNat) (j := k.toNat) (by omega) hk
          have hat2 := kSi_at hk1
          rw [hs] at up
          refine el_e k0 (G_e (by omega) ?_)
          dsimp only
          rw [e4]
          exact Ob_e S2 (G_e (by dsimp only; omega) (el_e (by dsimp only; omega) (nx _ (by omega))))
theorem so_mb (E : EA c (P, F, D, L, tok, w, lg)) (hc : c ≤ 700000) {p : Int} (hp : inR p) : ∃ m b, ax_most p (P, F, D, L, tok, w, lg) = some (m, (P, F, D, L, tok, w, lg)) ∧ ax_mostByRows p (P, F, D, L, tok, w, lg) = some (b, (P, F, D, L, tok, w, lg)) ∧ inR m ∧ inR b ∧ (m < 0 ∨ b < 0 ∨ m ≤ b) := by
  obtain ⟨hP, hF, w1, -, w3, -, -⟩ := EA_WA E
  dsimp only at hP hF w1 w3
  by_cases d : 0 ≤ p ∧ p < P
  · obtain ⟨q, hq⟩ := GQ_of w1 hP hF w3
    obtain ⟨k, rfl⟩ : ∃ k : Nat, P = (k : Int) := ⟨P.toNat, by omega⟩
    obtain ⟨n, rfl⟩ : ∃ n : Nat, F = (n : Int) := ⟨F.toNat, by omega⟩
    obtain ⟨m, -, m1, m2⟩ := v_most (D := D) (L := L) (lg := lg) hP hq d
    obtain ⟨b, b1, b2, b3⟩ := v_mbr (k := k) (n := n) (D := D) (L := L) (lg := lg) w1 (by omega) (by omega) w3 d
    have m3 := dx_most_ax m1
    refine ⟨m, b, m3, b1, ?_, by omega, ?_⟩
    · rcases m2 with ⟨-, h⟩ | ⟨-, h, -⟩ <;> omega
    · rcases m2 with ⟨-, h⟩ | ⟨h0, -, -, h⟩
      · exact Or.inl (by omega)
      · exact Or.inr (most_mbr hq d h0 h b3)
  · exact ⟨_, _, most_no hP hp d, mbr_no hP hp d, by omega, by omega, Or.inl (by omega)⟩
theorem so_220 (E : EA c (P, F, D, L, tok, w, lg)) (hc : c ≤ 700000) (hP3 : 3 ≤ P) (v : Int) : ∀ (fu : Nat) (p : Int) (kc : Nat), 0 ≤ p → p ≤ 6 → 6 - p < fu → (kc : Int) ≤ 60 + 2 * p → ON (F_L_isSo_b220 fu v 1 p (P, F, D, L, tok, w, lg) kc) := by
  intro fu
  induction fu with
  | zero => intro k kc h1 h2 h3; exact absurd h3 (by omega)
  | succ fu ih =>
    intro p kc h1 h2 h3 h4
    show ON (F_L_isSo_b220_body (F_L_isSo_b220 fu) v 1 p (P, F, D, L, tok, w, lg) kc)
    unfold F_L_isSo_b220_body
    refine G_e (by omega) ?_
    by_cases c6 : 6 ≤ p
    · refine if_e c6 ?_
      unfold F_L_isSo_b278
      exact so_281 E hc hP3 v NN 0 kc (by omega) (by omega) (NN_gt (by omega)) (by omega)
    · obtain ⟨m, b, m1, b1, mi, bi, hmb⟩ := so_mb E hc (p := p) (by omega)
      have e1 := sx_id (x := p) (by omega)
      have nx : ∀ kc' : Nat, (kc' : Int) ≤ 60 + 2 * (p + 1) → ON (F_L_isSo_b265 (F_L_isSo_b220 fu) v p (P, F, D, L, tok, w, lg) kc') := fun kc' hk' => by
        unfold F_L_isSo_b265 F_L_isSo_b270
        exact Bd_e (ih (p + 1) kc' (by omega) (by omega) (by omega) hk')
      refine el_e c6 (G_e (by omega) (el_e (by omega) (G_e (by omega) ?_)))
      rw [e1]
      refine Ob_e m1 (G_e (by omega) (Ob_e b1 (G_e mi ?_)))
      by_cases y : m < 0
      · exact if_e y (nx _ (by omega))
      · refine el_e y (G_e bi ?_)
        by_cases z : b < 0
        · exact if_e z (nx _ (by omega))
        · exact el_e z (G_e ⟨mi, bi⟩ (el_e (by omega) (nx _ (by omega))))
theorem so_165 (E : EA c (P, F, D, L, tok, w, lg)) (hc : c + 1 ≤ 700000) (hP3 : 3 ≤ P) (v : Int) (kc : Nat) (hk : kc ≤ 50) : ON (F_L_isSo_b165 v 1 (P, F, D, L, tok, w, lg) kc) := by
  obtain ⟨r0, a1, a2, -⟩ := ea_blank E (by omega)
  obtain rfl : r0 = _ := Option.some.inj (a1.symm.trans v_blank)
  dsimp only at a2
  obtain ⟨hP, hF, w1, -, w3, -, -⟩ := EA_WA a2
  dsimp only at hP hF w1 w3
  obtain ⟨g, g1, -⟩ := x_goes a2 (by omega)
  have g3 := v_goes (Int.le_refl 0) g1
  dsimp only at g3
  obtain ⟨q, hq⟩ := GQ_of w1 hP hF w3
  have hqr := GQ_in hq
  obtain ⟨n, n1, n2⟩ := v_graph (D := D) (L := 0) (lg := lg) (x := 0) hF hq (by omega)
  have hn : n = q.1 := by
    rcases n2 with ⟨h1, h2⟩ | ⟨-, h2, -⟩
    · omega
    · exact h2 rfl
  obtain ⟨d, d1, d2⟩ := v_cost a2 (by omega) hq
  have hq1 : q.1 = -1 ∨ 0 ≤ q.1 := by
    rcases hq.2 with ⟨a, -⟩ | ⟨-, a⟩
    · exact Or.inl a
    · have := a.1.1
      omega
  have tail : ∀ kc' : Nat, kc' ≤ 60 → ON (F_L_isSo_b210 v (P, F, D, 0, tok, w, lg) kc') := fun kc' hk' => by
    unfold F_L_isSo_b210 F_L_isSo_b215
    exact so_220 a2 (by omega) hP3 v NN 0 kc' (by omega) (by omega) (NN_gt (by omega)) (by omega)
  unfold F_L_isSo_b165
  refine G_e (by omega) (Ob_e v_blank (G_e (by omega) (el_e (by omega) (G_e (by omega) (Ob_e g1 (G_e (by dsimp only; omega) (if_e (by dsimp only; omega) (G_e (by omega) (Ob_e n1 (G_e (by dsimp only; omega) ?_))))))))))
  by_cases y : 0 ≤ n
  · refine if_e y (G_e (by omega) (Ob_e d1 (G_e (by dsimp only; omega) (if_e (by dsimp only; omega) (tail _ (by omega))))))
  · refine el_e y (G_e (by omega) (Ob_e d1 (G_e (by dsimp only; omega) (if_e (by dsimp only; omega) (tail _ (by omega))))))
theorem so_111 (E : EA c (P, F, D, L, tok, w, lg)) (hc : c + 1 ≤ 700000) (hP3 : 3 ≤ P) {many : Int} (hm : inR many) (hq : many < 0 ∨ ∃ q, GQ P F tok w q ∧ q.1 ≠ -1 ∧ endsE F q.2.2.2.2 q.1.toNat ≤ many) (v l6 : Int) (h6 : 0 ≤ l6 ∧ l6 ≤ 10) (kc : Nat) (hk : kc ≤ 40) : ON (F_L_isSo_b111 v many l6 (P, F, D, L, tok, w, lg) kc) := by
  obtain ⟨hP, hF, w1, -, w3, -, -⟩ := EA_WA E
  dsimp only at hP hF w1 w3
  unfold F_L_isSo_b111
  refine G_e (by omega) (el_e (by omega) (G_e hm ?_))
  have tail : ∀ kc' : Nat, kc' ≤ 50 → ON (F_L_isSo_b160 v (P, F, D, L, tok, w, lg) kc') := fun kc' hk' => by
    unfold F_L_isSo_b160
    exact so_165 E hc hP3 v kc' hk'
  by_cases y : many < 0
  · exact if_e y (tail _ (by omega))
  · rcases hq with h | ⟨q, hq, q1, q2⟩
    · exact absurd h y
    · obtain ⟨g2, a1, a2⟩ := v_graph (D := D) (L := L) (lg := lg) (x := 2) hF hq (by omega)
      obtain ⟨g1, b1, b2⟩ := v_graph (D := D) (L := L) (lg := lg) (x := 1) hF hq (by omega)
      obtain ⟨g0, c1, c2⟩ := v_graph (D := D) (L := L) (lg := lg) (x := 0) hF hq (by omega)
      have hB : BF P F w tok q.1 (8 * q.1) q.2.1 q.2.2.1 q.2.2.2.1 q.2.2.2.2 := by
        rcases hq.2 with ⟨a, -⟩ | ⟨-, a⟩
        · exact absurd a q1
        · exact a
      have hn := hB.1.1
      have ht := cnt_tree hB hF.2
      have h9 := cntE_b (F := F) (ld := q.2.2.2.2) (8 * q.1).toNat
      have h8 := endsE_b (F := F) (ld := q.2.2.2.2) q.1.toNat
      have e2 : g2 = endsE F q.2.2.2.2 q.1.toNat := by
        rcases a2 with ⟨z, -⟩ | ⟨-, -, -, z⟩
        · exact absurd z q1
        · exact z rfl
      have e1 : g1 = cntE F q.2.2.2.2 (8 * q.1).toNat := by
        rcases b2 with ⟨z, -⟩ | ⟨-, -, z, -⟩
        · exact absurd z q1
        · exact z rfl
      have e0 : g0 = q.1 := by
        rcases c2 with ⟨z, -⟩ | ⟨-, z, -⟩
        · exact absurd z q1
        · exact z rfl
      have M := v_marking (D := D) (L := L) (lg := lg) (by omega) hq q1
      have T := v_tokens (F := F) (D := D) (L := L) (tok := tok) (w := w) (lg := lg) (x := 0) hP (by omega)
      rw [show (0 : Int).toNat = 0 from rfl] at T
      have h0 := w3 0 (by omega) (by omega)
      have t0 : tk tok 0 = tok 0 := rfl
      rw [t0] at h0
      refine el_e y (G_e (by omega) (Ob_e a1 (G_e (by dsimp only; omega) (el_e (by dsimp only; omega) (G_e (by omega) (Ob_e b1 (G_e (by omega) (Ob_e c1 (Bd_e (G_e (by dsimp only; omega) (el_e (by dsimp only; omega) (G_e (by omega) (Ob_e M (G_e (by omega) (Ob_e T (G_e (by dsimp only; omega) (if_e rfl (tail _ (by omega)))))))))))))))))))
theorem so_74 {q0 : Int × (Nat → Int) × (Nat → Int) × (Nat → Int) × (Nat → Int)} (hP3 : 3 ≤ P) (hw : ∀ f : Int, F ≤ f → f < 8 → idle 6 w f) {many cost : Int} (hm : inR many) (hq0 : GQ P F tok w q0) (hmany : many = q0.1) (hcost : cost ≤ 10 ∧ -1 ≤ cost) (v : Int) : ∀ (fu c : Nat) (L l6 : Int) (lg : Nat → Int) (kc : Nat), 10 - L < fu → EA c (P, F, D, L, tok, w, lg) → c + 20 ≤ 700000 + L → 0 ≤ l6 → l6 ≤ L → (kc : Int) ≤ 10 + l6 → ON (F_L_isSo_b74 fu v many cost 1 l6 (P, F, D, L, tok, w, lg) kc) := by
  intro fu
  induction fu with
  | zero =>
    intro c L l6 lg kc h1 E
    have := (EA_WA E).2.2.2.2.2.1
    exact absurd h1 (by dsimp only at this; omega)
  | succ fu ih =>
    intro c L l6 lg kc h1 E h2 h3 h4 h5
    obtain ⟨hP, hF, w1, w2, w3, hL, w5⟩ := EA_WA E
    dsimp only at hP hF w1 w2 w3 hL w5
    obtain ⟨r0, a1, a2, a3, -⟩ := ea_log E (by omega : inR 0) (by omega)
    show ON (F_L_isSo_b74_body (F_L_isSo_b74 fu) v many cost 1 l6 (P, F, D, L, tok, w, lg) kc)
    unfold F_L_isSo_b74_body
    rcases v_log (P := P) (D := D) (tok := tok) (w := w) (lg := lg) (x := 0) hF hL (by omega) with h | ⟨h0, lg', h⟩
    · -- the log is full, or there is no firing
      refine G_e (by omega) (Ob_e h (G_e (by dsimp only; omega) (if_e (by dsimp only; omega) (G_e (by omega) (el_e (by omega) (G_e (by omega) ?_))))))
      obtain ⟨r1, b1, b2, b3, -⟩ := ea_firing E (by omega)
      rcases v_firing (P := P) (D := D) (L := L) (tok := tok) (w := w) (lg := lg) hF with ⟨hF8, g⟩ | ⟨hF8, -, g⟩
      · refine Ob_e g (G_e (by dsimp only; omega) (if_e (by dsimp only; omega) ?_))
        refine so_111 E (by omega) hP3 hm ?_ v l6 (by omega) _ (by omega)
        by_cases y : q0.1 = -1
        · exact Or.inl (by omega)
        · have h8 := endsE_b (F := F) (ld := q0.2.2.2.2) q0.1.toNat
          have hr := GQ_in hq0
          have hp : 0 ≤ q0.1 := by
            rcases hq0.2 with ⟨a, -⟩ | ⟨-, a⟩
            · exact absurd a y
            · have := a.1.1
              omega
          exact Or.inr ⟨q0, hq0, y, by omega⟩
      · obtain rfl : r1 = _ := Option.some.inj (b1.symm.trans g)
        dsimp only at b2
        have go : ∀ kc' : Nat, kc' ≤ 40 → ON (F_L_isSo_b111 v many l6 (P, F + 1, D, L, tok, w, lg) kc') := fun kc' hk' => by
          refine so_111 b2 (by omega) hP3 hm ?_ v l6 (by omega) kc' hk'
          by_cases y : q0.1 = -1
          · exact Or.inl (by omega)
          · have hB : BF P F w tok q0.1 (8 * q0.1) q0.2.1 q0.2.2.1 q0.2.2.2.1 q0.2.2.2.2 := by
              rcases hq0.2 with ⟨a, -⟩ | ⟨-, a⟩
              · exact absurd a y
              · exact a
            have hn := hB.1.1
            have hid : idle P w F := fun k p k1 k2 p1 p2 => hw F (Int.le_refl _) hF8 k p k1 k2 p1 (by omega)
            obtain ⟨q1, hq1⟩ := GQ_of (F := F + 1) w1 hP (by omega) w3
            rcases hq1.2 with ⟨-, a⟩ | ⟨a0, a⟩
            · exact absurd a (idle_fits hB hF.2 (dep_DE hB) hid)
            · have he := no_end a (by omega) (f := F) (by omega) hid q1.1.toNat (by have := a.1.1; omega)
              exact Or.inr ⟨q1, hq1, a0, by rw [he]; omega⟩
        refine Ob_e g (G_e (by dsimp only; omega) (el_e (by dsimp only; omega) (G_e hm ?_)))
        by_cases y : many < 0
        · exact if_e y (go _ (by omega))
        · exact el_e y (G_e (by omega) (el_e (by omega) (go _ (by omega))))
    · -- one more
      obtain rfl : r0 = _ := Option.some.inj (a1.symm.trans h)
      dsimp only at a2
      refine G_e (by omega) (Ob_e h (G_e (by dsimp only; omega) (el_e (by dsimp only; omega) (Bd_e ?_))))
      exact ih (c + 1) (L + 1) (l6 + 1) lg' _ (by omega) a2 (by omega) (by omega) (by omega) (by omega)
theorem so_ok {A : AS} (E : EA c A) (hc : c ≤ 600000) (hP3 : 3 ≤ A.1) (hw : wF A) (v : Int) : ON (F_L_isSo v A 0) := by
  obtain ⟨P, F, D, L, tok, w, lg⟩ := A
  obtain ⟨hP, hF, w1, w2, w3, hL, w5⟩ := EA_WA E
  dsimp only at hP hF w1 w2 w3 hL w5 hP3
  obtain ⟨q, hq⟩ := GQ_of w1 hP hF w3
  have hqr := GQ_in hq
  obtain ⟨n, n1, n2⟩ := v_graph (D := D) (L := L) (lg := lg) (x := 0) hF hq (by omega)
  have hn : n = q.1 := by
    rcases n2 with ⟨h1, h2⟩ | ⟨-, h2, -⟩
    · omega
    · exact h2 rfl
  have hq1 : q.1 = -1 ∨ 0 ≤ q.1 := by
    rcases hq.2 with ⟨a, -⟩ | ⟨-, a⟩
    · exact Or.inl a
    · have := a.1.1
      omega
  obtain ⟨g, g1, -⟩ := x_goes E (by omega)
  have g3 := v_goes hL.1 g1
  dsimp only at g3
  obtain ⟨d, d1, d2⟩ := v_cost E (by omega) hq
  have K := v_keeps E (by omega) hq
  have T : dx_trap 0 (P, F, D, L, tok, w, lg) = some (0, (P, F, D, L, tok, w, lg)) := by
    have h := v_trap (P := P) (F := F) (D := D) (L := L) (tok := tok) (lg := lg) (s := 0) w1 hP hF (Nat.two_pow_pos _)
    have h0 := sub_le (itT_sub (P := P) (F := F) (w := w) 6 0 (by omega))
    rw [show itT P F w 6 0 = 0 by omega] at h
    exact h
  have tail : ∀ s : Int, (s = 0 ∨ s = 1) → (s = 1 ↔ n < 0) → ON (F_L_isSo_b33 v n g d s (P, F, D, L, tok, w, lg) (0 + 1 + 1 + 1 + 1)) := fun s s1 s2 => by
    have t43 : ∀ u : Int, u = s → ON (F_L_isSo_b43 v n g d s u (P, F, D, L, tok, w, lg) (0 + 1 + 1 + 1 + 1)) := fun u hu => by
      unfold F_L_isSo_b43
      refine G_e (by omega) (if_e hu.symm (G_e (by omega) (Ob_e T (G_e (by dsimp only; omega) (if_e rfl (G_e (by omega) (el_e (by omega) (G_e (by omega) (el_e (by omega) ?_)))))))))
      unfold F_L_isSo_b69
      exact so_74 hP3 hw (by omega) hq hn (by omega) v NN c L 0 lg _ (NN_gt (by omega)) E (by omega) (by omega) hL.1 (by omega)
    unfold F_L_isSo_b33
    refine G_e (by omega) ?_
    by_cases y : 0 ≤ d
    · exact if_e y (t43 0 (by omega))
    · exact el_e y (t43 1 (by omega))
  unfold F_L_isSo
  refine G_e (by omega) (Ob_e n1 (G_e (by omega) (Ob_e g1 (G_e (by omega) (Ob_e d1 (G_e (by omega) (Ob_e K (G_e (by dsimp only; omega) (el_e (by dsimp only; omega) (G_e (by dsimp only; omega) ?_))))))))))
  by_cases y : 0 ≤ n
  · exact if_e y (tail 0 (Or.inl rfl) (by omega))
  · exact el_e y (tail 1 (Or.inr rfl) (by omega))
end SO
