/-! what rows keep: their sums, and bounds by them; the calls mostByRows, keeps, cost -/
theorem si_part {a : Nat → Int} : ∀ (n : Nat), (∀ i, i < n → 0 ≤ a i) → ∀ p, p < n → a p ≤ si n a
  | 0, _, p, hp => absurd hp (Nat.not_lt_zero p)
  | n + 1, h, p, hp => by
    have h0 := h n (by omega)
    rw [si]
    by_cases q : p = n
    · rw [q]
      have := si_nn0 n (fun i hi => h i (by omega))
      omega
    · have := si_part n (fun i hi => h i (by omega)) p (by omega)
      omega
theorem sum_step {k n c : Nat} {w : Nat → Int} {t : Int → Int} {f : Int} (hb : bS 4 k n (gRow w) (adRow n w) c) (hf : 0 ≤ f ∧ f < n) : sumR k c (aftM w t f) = sumR k c t := by
  have e : si k (fun p => (dg 4 k c p : Int) * aftM w t f (p : Int)) = si k (fun p => (dg 4 k c p : Int) * t (p : Int) + (dg 4 k c p : Int) * gRow w f.toNat p) := si_cong k (fun p hp => by
    by_cases q : dg 4 k c p = 0
    · rw [q]; simp
    · have ha : adRow n w p := Classical.byContradiction fun z => q (hb.2.1 p hp z)
      have h4 := ha f.toNat (by omega)
      rw [show ((f.toNat : Nat) : Int) = f by omega] at h4
      have ea : aftM w t f (p : Int) = t (p : Int) + gRow w f.toNat p := by
        unfold aftM aft gRow chg
        rw [h4, if_neg (by omega), show ((f.toNat : Nat) : Int) = f by omega]
        omega
      rw [ea, Int.mul_add])
  unfold sumR
  rw [e, si_add, hb.2.2 f.toNat (by omega), Int.add_zero]
theorem sum_path {k n c : Nat} {w : Nat → Int} {t : Int → Int} (hb : bS 4 k n (gRow w) (adRow n w) c) : ∀ (j : Nat) (u : Int → Int), RJ (k : Int) (n : Int) w t j u → sumR k c u = sumR k c t := by
  intro j
  induction j with
  | zero => intro u h; exact sumR_cong h
  | succ j ih =>
    intro u h
    obtain ⟨v, f, hv, hf, hc, he⟩ := h
    rw [sumR_cong he, sum_step hb hf, ih v hv]
theorem sum_graph {k n c : Nat} {N E : Int} {w tok mk wh by_ ld : Nat → Int} (h : BF (k : Int) (n : Int) w tok N E mk wh by_ ld) (hb : bS 4 k n (gRow w) (adRow n w) c) {m : Int} (hm : 0 ≤ m ∧ m < N) : sumR k c (row mk m) = sumR k c (tk tok) := by
  obtain ⟨j, hj⟩ := BF_reach h (m.toNat + 1) m hm.1 hm.2 (by omega)
  exact sum_path hb j _ hj
theorem row_bound {k n c p : Nat} {N E : Int} {w tok mk wh by_ ld : Nat → Int} (h : BF (k : Int) (n : Int) w tok N E mk wh by_ ld) (hb : bS 4 k n (gRow w) (adRow n w) c) (hp : p < k) (hd : dg 4 k c p ≠ 0) {m : Int} (hm : 0 ≤ m ∧ m < N) : row mk m (p : Int) ≤ sumR k c (tk tok) / (dg 4 k c p : Int) := by
  have hs := sum_graph h hb hm
  have ht := h.2.1.1 m hm.1 hm.2
  have hle := si_part (a := fun p => (dg 4 k c p : Int) * row mk m (p : Int)) k (fun i hi => Int.mul_nonneg (by omega) (ht (i : Int) (by omega) (by omega)).1) p hp
  rw [Int.le_ediv_iff_mul_le (by omega), ← hs, Int.mul_comm]
  exact hle
theorem rows_S {k n c : Nat} {w : Nat → Int} (h : c ∈ kB 4 k n (gRow w) (adRow n w) (4 ^ k)) : bS 4 k n (gRow w) (adRow n w) c := (kp_mem (S := bS 4 k n (gRow w) (adRow n w)) (bel := bB 4 k) _ _ h).2
theorem v_mbr {k n : Nat} {D L x : Int} {tok w lg : Nat → Int} (hw : wOk w) (hk : k ≤ 6) (hn : n ≤ 8) (ht : tOk (k : Int) (tk tok)) (hx : 0 ≤ x ∧ x < (k : Int)) : ∃ b, ax_mostByRows x ((k : Int), (n : Int), D, L, tok, w, lg) = some (b, ((k : Int), (n : Int), D, L, tok, w, lg)) ∧ (-1 ≤ b ∧ b ≤ 2000) ∧ BQ k x.toNat (kB 4 k n (gRow w) (adRow n w) (4 ^ k)) tok b := by
  obtain ⟨⟨nn, f1⟩, k1, k2, k3⟩ := leastRows_ok (f0 := zf) hw hk hn
  have hl := rows_len (n := n) (w := w) hk (Nat.le_refl (4 ^ k))
  have hpw := p4_le (k := k) hk
  dsimp only at k2 k3
  obtain ⟨b, -, b2, b3, b4⟩ := bound_ok (p := x.toNat) (tok := tok) (le := fun i => enB 4 k ((kB 4 k n (gRow w) (adRow n w) (4 ^ k)).getD i 0)) hk (by omega) hl (fun i hi => by
    dsimp only
    rw [List.getD_eq_getElem?_getD, List.getElem?_eq_getElem hi]
    rfl) k3 (fun c hc => by have := (kp_mem _ c hc).1; omega) ht
  obtain ⟨mk', m1, -, -⟩ := b4 zf
  rw [show ((x.toNat : Nat) : Int) = x by omega, ← k2] at m1
  refine ⟨b, ?_, b2, b3⟩
  unfold ax_mostByRows F_X6_mostByRows F_X6_mostByRows_b14
  exact Ob_i (y := (b, 0, mk', f1)) (Ob_i (isPlace_c (by dsimp only; omega) hx) (G_i (by omega) (el_i (by omega) (Ob_i goesWell_0 (G_i (by omega) (el_i (by omega) (Ob_i k1 (Ob_i m1 rfl)))))))) rfl
theorem mbr_no {P F D L x : Int} {tok w lg : Nat → Int} (hP : 0 ≤ P ∧ P ≤ 6) (hx : inR x) (h : ¬ (0 ≤ x ∧ x < P)) : ax_mostByRows x (P, F, D, L, tok, w, lg) = some (-99999999, (P, F, D, L, tok, w, lg)) := by
  unfold ax_mostByRows F_X6_mostByRows F_X6_mostByRows_b14
  exact Ob_i (y := (0, 1, zf, zf)) (Ob_i (isPlace_n hx hP h) (G_i (by omega) (if_i rfl (Ob_i (goesWell_n (by omega) (by omega)) (G_i (by omega) (if_i rfl rfl)))))) rfl
/-- most is never above the bound by rows -/
theorem most_mbr {k n : Nat} {b v x : Int} {tok w : Nat → Int} {q : Int × (Nat → Int) × (Nat → Int) × (Nat → Int) × (Nat → Int)} (h : GQ (k : Int) (n : Int) tok w q) (hx : 0 ≤ x ∧ x < (k : Int)) (hq : q.1 ≠ -1) (hv : ∃ m : Int, (0 ≤ m ∧ m < q.1) ∧ row q.2.1 m x = v) (hb : BQ k x.toNat (kB 4 k n (gRow w) (adRow n w) (4 ^ k)) tok b) : b < 0 ∨ v ≤ b := by
  rcases h.2 with ⟨a, -⟩ | ⟨-, a⟩
  · exact absurd a hq
  · rcases hb with hb | ⟨c, c1, c2, c3⟩
    · exact Or.inl (by omega)
    · obtain ⟨m, m1, m2⟩ := hv
      right
      have := row_bound a (rows_S c1) (p := x.toNat) (by omega) c2 m1
      rw [show ((x.toNat : Nat) : Int) = x by omega] at this
      rw [c3, ← m2]
      exact this
theorem v_keeps {cl : Nat} {P F D L : Int} {tok w lg : Nat → Int} {q : Int × (Nat → Int) × (Nat → Int) × (Nat → Int) × (Nat → Int)} (E : EA cl (P, F, D, L, tok, w, lg)) (hc : cl + 1 ≤ 900000) (h : GQ P F tok w q) : dx_keeps (P, F, D, L, tok, w, lg) = some (1, (P, F, D, L, tok, w, lg)) := by
  obtain ⟨net_places, net_firings, net_now, net_done, net_shape, net_state, net_weights, net_needed, net_borne, net_emptied, net_taken, net_given, reach_queued, reach_state, reach_count, reach_pairs, reach_ends, reach_tooGreat, reach_found, reach_slots, reach_depths, reach_foundBy, reach_targets, reach_lastInto, reach_nextInto, reach_marked, reach_queue, rows_highest, rows_width, rows_vector, rows_sums, rows_count, rows_shape, rows_least, rows_columns, rows_admitted, rounds_highest, rounds_width, rounds_vector, rounds_sums, rounds_count, rounds_shape, rounds_least, rounds_columns, rounds_admitted, sets_firings, sets_count, sets_shape, sets_takes, sets_loses, sets_gives, sets_least, story_markings, story_length, story_entries, story_here, story_further, S⟩ := E
  replace S : Sim cl net_places net_firings net_now net_done net_shape net_state net_weights net_needed net_borne net_emptied net_taken net_given reach_queued reach_state reach_count reach_pairs reach_ends reach_tooGreat reach_found reach_slots reach_depths reach_foundBy reach_targets reach_lastInto reach_nextInto reach_marked reach_queue rows_highest rows_width rows_vector rows_sums rows_count rows_shape rows_least rows_columns rows_admitted rounds_highest rounds_width rounds_vector rounds_sums rounds_count rounds_shape rounds_least rounds_columns rounds_admitted sets_firings sets_count sets_shape sets_takes sets_loses sets_gives sets_least story_markings story_length story_entries story_here story_further 0 P F D L tok w lg zf zf zf zf zf zf zf zf := S
  obtain ⟨k, n, hk, hn, e1, e2, e3, e4, e5, hw, ho, ht, e6, hp, e7, b1, b2, b3, e8, b4, he, e9, e10, hG, hRw, hRd, hS⟩ := S
  subst e1 e2 e3 e4 e5 e6 e7 e8 e9 e10
  obtain ⟨rx, rm, f1, f2, -, -, p1, p2, p3, p4⟩ := op_keeps (th := 0) (fd := zf) (wd := rows_width) (v := rows_vector) (su := rows_sums) (col := rows_columns) (adm := rows_admitted) (mk := zf) (wh := zf) (by_ := zf) (ld := zf) hp hw ho hk hn (by omega) (by omega) ht hRw hG
  have h1 : rm.1 = 1 := by
    rw [← p1]
    refine p4 q h.1 ?_
    rcases h.2 with ⟨a, -⟩ | ⟨a, b⟩
    · exact Or.inl a
    · refine Or.inr ⟨fun m m1 m2 c hc => sum_graph b (rows_S hc) ⟨m1, m2⟩, fun p hp c hc hd v hv => ?_⟩
      obtain ⟨v', v1, -, v3⟩ := most_ok (p := (p : Int)) (by omega) b.1.1 (fun m m1 m2 => b.2.1.1 m m1 m2 (p : Int) (by omega) (by omega))
      obtain rfl : v' = v := Option.some.inj (v1.symm.trans hv)
      obtain ⟨m, m1, m2⟩ := v3.2
      rw [← m2]
      exact row_bound b (rows_S hc) hp hd m1
  unfold dx_keeps ax_keeps
  refine Ob_i f2 ?_
  rw [h1]
theorem v_cost {cl : Nat} {P F D L : Int} {tok w lg : Nat → Int} {q : Int × (Nat → Int) × (Nat → Int) × (Nat → Int) × (Nat → Int)} (E : EA cl (P, F, D, L, tok, w, lg)) (hc : cl + 1 ≤ 900000) (h : GQ P F tok w q) : ∃ v, dx_cost (P, F, D, L, tok, w, lg) = some (v, (P, F, D, L, tok, w, lg)) ∧ ((q.1 = -1 ∧ v = -1) ∨ (q.1 ≠ -1 ∧ 0 ≤ v ∧ v ≤ L)) := by
  obtain ⟨net_places, net_firings, net_now, net_done, net_shape, net_state, net_weights, net_needed, net_borne, net_emptied, net_taken, net_given, reach_queued, reach_state, reach_count, reach_pairs, reach_ends, reach_tooGreat, reach_found, reach_slots, reach_depths, reach_foundBy, reach_targets, reach_lastInto, reach_nextInto, reach_marked, reach_queue, rows_highest, rows_width, rows_vector, rows_sums, rows_count, rows_shape, rows_least, rows_columns, rows_admitted, rounds_highest, rounds_width, rounds_vector, rounds_sums, rounds_count, rounds_shape, rounds_least, rounds_columns, rounds_admitted, sets_firings, sets_count, sets_shape, sets_takes, sets_loses, sets_gives, sets_least, story_markings, story_length, story_entries, story_here, story_further, S⟩ := E
  replace S : Sim cl net_places net_firings net_now net_done net_shape net_state net_weights net_needed net_borne net_emptied net_taken net_given reach_queued reach_state reach_count reach_pairs reach_ends reach_tooGreat reach_found reach_slots reach_depths reach_foundBy reach_targets reach_lastInto reach_nextInto reach_marked reach_queue rows_highest rows_width rows_vector rows_sums rows_count rows_shape rows_least rows_columns rows_admitted rounds_highest rounds_width rounds_vector rounds_sums rounds_count rounds_shape rounds_least rounds_columns rounds_admitted sets_firings sets_count sets_shape sets_takes sets_loses sets_gives sets_least story_markings story_length story_entries story_here story_further 0 P F D L tok w lg zf zf zf zf zf zf zf zf := S
  obtain ⟨k, n, hk, hn, e1, e2, e3, e4, e5, hw, ho, ht, e6, hp, e7, b1, b2, b3, e8, b4, he, e9, e10, hG, hRw, hRd, hS⟩ := S
  subst e1 e2 e3 e4 e5 e6 e7 e8 e9 e10
  obtain ⟨rx, rm, f1, f2, -, p1, p2, p3, p4⟩ := op_cost (th := 0) (sm := story_markings) (here := story_here) (fur := story_further) (costs := zf) (nxt := zf) (mk := zf) (wh := zf) (by_ := zf) (ld := zf) hp hw ho (by omega) (by omega) ht (by omega) b4 he hG
  refine ⟨rm.1, ?_, by rw [← p1]; exact p4 q h.1⟩
  unfold dx_cost ax_cost
  exact Ob_i f2 rfl
def WA (A : AS) : Prop := (0 ≤ A.1 ∧ A.1 ≤ 6) ∧ (0 ≤ A.2.1 ∧ A.2.1 ≤ 8) ∧ wOk A.2.2.2.2.2.1 ∧ wOut A.1 A.2.2.2.2.2.1 ∧ tOk A.1 (tk A.2.2.2.2.1) ∧ (0 ≤ A.2.2.2.1 ∧ A.2.2.2.1 ≤ 10) ∧ (0 ≤ A.2.2.1)
theorem EA_WA {cl : Nat} {A : AS} (E : EA cl A) : WA A := by
  obtain ⟨net_places, net_firings, net_now, net_done, net_shape, net_state, net_weights, net_needed, net_borne, net_emptied, net_taken, net_given, reach_queued, reach_state, reach_count, reach_pairs, reach_ends, reach_tooGreat, reach_found, reach_slots, reach_depths, reach_foundBy, reach_targets, reach_lastInto, reach_nextInto, reach_marked, reach_queue, rows_highest, rows_width, rows_vector, rows_sums, rows_count, rows_shape, rows_least, rows_columns, rows_admitted, rounds_highest, rounds_width, rounds_vector, rounds_sums, rounds_count, rounds_shape, rounds_least, rounds_columns, rounds_admitted, sets_firings, sets_count, sets_shape, sets_takes, sets_loses, sets_gives, sets_least, story_markings, story_length, story_entries, story_here, story_further, S⟩ := E
  obtain ⟨P, F, D, L, tok, w, lg⟩ := A
  replace S : Sim cl net_places net_firings net_now net_done net_shape net_state net_weights net_needed net_borne net_emptied net_taken net_given reach_queued reach_state reach_count reach_pairs reach_ends reach_tooGreat reach_found reach_slots reach_depths reach_foundBy reach_targets reach_lastInto reach_nextInto reach_marked reach_queue rows_highest rows_width rows_vector rows_sums rows_count rows_shape rows_least rows_columns rows_admitted rounds_highest rounds_width rounds_vector rounds_sums rounds_count rounds_shape rounds_least rounds_columns rounds_admitted sets_firings sets_count sets_shape sets_takes sets_loses sets_gives sets_least story_markings story_length story_entries story_here story_further 0 P F D L tok w lg zf zf zf zf zf zf zf zf := S
  obtain ⟨k, n, hk, hn, e1, e2, e3, e4, e5, hw, ho, ht, e6, hp, e7, b1, b2, b3, e8, b4, he, e9, e10, hG, hRw, hRd, hS⟩ := S
  refine ⟨by dsimp only; omega, by dsimp only; omega, hw, ?_, ?_, b4, b1.1⟩
  · dsimp only
    rw [e2]; exact ho
  · dsimp only
    rw [e2]; exact ht
