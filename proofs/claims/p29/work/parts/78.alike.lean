/-! areAlike: two of one abstract state are alike -/
theorem xo {A : AS} {o : Option (Int × AS)} {r : Int × AS} (h : o = some r) (e : r.2 = A) : ∃ v, o = some (v, A) ∧ r.1 = v := ⟨r.1, by rw [h, ← e], rfl⟩
section AL
variable {c : Nat} {A : AS}
theorem x_goes (E : EA c A) (hc : c + 1 ≤ 900000) : ∃ v, dx_goes A = some (v, A) ∧ inR v := by
  obtain ⟨r, h1, -, h3⟩ := ea_goes E hc
  obtain ⟨v, h4, rfl⟩ := xo h1 (od_goes h1)
  exact ⟨_, h4, h3⟩
theorem x_isPromising (E : EA c A) (hc : c + 1 ≤ 900000) : ∃ v, dx_isPromising A = some (v, A) ∧ inR v := by
  obtain ⟨r, h1, -, h3⟩ := ea_isPromising E hc
  obtain ⟨v, h4, rfl⟩ := xo h1 (od_isPromising h1)
  exact ⟨_, h4, h3⟩
theorem x_siphons (E : EA c A) (hc : c + 1 ≤ 900000) : ∃ v, dx_siphons A = some (v, A) ∧ inR v := by
  obtain ⟨r, h1, -, h3⟩ := ea_siphons E hc
  obtain ⟨v, h4, rfl⟩ := xo h1 (od_siphons h1)
  exact ⟨_, h4, h3⟩
theorem x_cost (E : EA c A) (hc : c + 1 ≤ 900000) : ∃ v, dx_cost A = some (v, A) ∧ inR v := by
  obtain ⟨r, h1, -, h3⟩ := ea_cost E hc
  obtain ⟨v, h4, rfl⟩ := xo h1 (od_cost h1)
  exact ⟨_, h4, h3⟩
theorem x_tokens (E : EA c A) (hc : c + 1 ≤ 900000) (x : Int) : ∃ v, ax_tokens (sx x) A = some (v, A) ∧ inR v := by
  obtain ⟨r, h1, -, h3, -⟩ := ea_tokens E (sx_in x) hc
  obtain ⟨v, h4, rfl⟩ := xo h1 (oa_tokens h1)
  exact ⟨_, h4, h3⟩
theorem x_can (E : EA c A) (hc : c + 1 ≤ 900000) (x : Int) : ∃ v, ax_can (sx x) A = some (v, A) ∧ inR v := by
  obtain ⟨r, h1, -, h3, -⟩ := ea_can E (sx_in x) hc
  obtain ⟨v, h4, rfl⟩ := xo h1 (oa_can h1)
  exact ⟨_, h4, h3⟩
theorem x_trap (E : EA c A) (hc : c + 1 ≤ 900000) (x : Int) : ∃ v, ax_trap (sx x) A = some (v, A) ∧ inR v := by
  obtain ⟨r, h1, -, h3, -⟩ := ea_trap E (sx_in x) hc
  obtain ⟨v, h4, rfl⟩ := xo h1 (oa_trap h1)
  exact ⟨_, h4, h3⟩
theorem x_siphon (E : EA c A) (hc : c + 1 ≤ 900000) (x : Int) : ∃ v, ax_siphon (sx x) A = some (v, A) ∧ inR v := by
  obtain ⟨r, h1, -, h3, -⟩ := ea_siphon E (sx_in x) hc
  obtain ⟨v, h4, rfl⟩ := xo h1 (oa_siphon h1)
  exact ⟨_, h4, h3⟩
theorem x_graph (E : EA c A) (hc : c + 1 ≤ 900000) {x : Int} (hx : 0 ≤ x ∧ x ≤ 3) : ∃ v, dx_graph (sx x) A = some (v, A) ∧ inR v := by
  obtain ⟨P, F, D, L, tok, w, lg⟩ := A
  obtain ⟨hP, hF, w1, w2, w3, w4, w5⟩ := EA_WA E
  dsimp only at hP hF w1 w2 w3 w4 w5
  obtain ⟨q, hq⟩ := GQ_of w1 hP hF w3
  rw [sx_id (by omega : inR x)]
  obtain ⟨v, h1, -⟩ := v_graph (D := D) (L := L) (lg := lg) hF hq hx
  obtain ⟨r, g1, -, g3, -⟩ := ea_graph E (by omega : inR x) hc
  obtain rfl : r = _ := Option.some.inj (g1.symm.trans (dx_graph_ax h1))
  exact ⟨v, h1, g3⟩
def YES (A : AS) (o : Option (Int × AS × AS × Nat)) : Prop := ∃ r, o = some r ∧ r.1 = 1 ∧ r.2.1 = A ∧ r.2.2.1 = A
theorem alike_end (E : EA c A) (hc : c + 1 ≤ 900000) (v : Int) (kc : Nat) (hk : kc ≤ 90) : YES A (F_L_areAlike_b139 v 1 A A kc) := by
  obtain ⟨r1, l1, l2, l3⟩ := low_ok v (n := 4) (by omega)
  obtain ⟨g, g1, g2⟩ := x_graph E hc (x := r1) (by omega)
  obtain ⟨d, d1, d2⟩ := x_cost E hc
  unfold F_L_areAlike_b139
  refine G_e (by omega) (el_e (by omega) (G_e (by omega) (Ob_e l1 (G_e (by omega) (Ob_e g1 (G_e (by omega) (Ob_e l1 (G_e (by omega) (Ob_e g1 (G_e ⟨g2, g2⟩ (if_e rfl (G_e (by omega) (Ob_e d1 (G_e (by omega) (Ob_e d1 (G_e ⟨d2, d2⟩ (if_e rfl (G_e (by omega) (G_e (Or.inr rfl) (so_e ⟨rfl, rfl, rfl⟩))))))))))))))))))))
theorem alike_loop (E : EA c A) (hc : c + 1 ≤ 900000) (v : Int) : ∀ (fu : Nat) (k : Int) (kc : Nat), 0 ≤ k → k ≤ 6 → 6 - k < fu → (kc : Int) ≤ 6 + 8 * k → YES A (F_L_areAlike_b42 fu v 1 k A A kc) := by
  intro fu
  induction fu with
  | zero => intro k kc h1 h2 h3; exact absurd h3 (by omega)
  | succ fu ih =>
    intro k kc h1 h2 h3 h4
    show YES A (F_L_areAlike_b42_body (F_L_areAlike_b42 fu) v 1 k A A kc)
    unfold F_L_areAlike_b42_body
    refine G_e (by omega) ?_
    by_cases c6 : 6 ≤ k
    · exact if_e c6 (alike_end E hc v kc (by omega))
    · obtain ⟨t, t1, t2⟩ := x_tokens E hc k
      obtain ⟨n, n1, n2⟩ := x_can E hc k
      obtain ⟨r, l1, l2, l3⟩ := low_ok (v + k) (n := 16) (by omega)
      obtain ⟨p, p1, p2⟩ := x_trap E hc r
      obtain ⟨s, s1, s2⟩ := x_siphon E hc k
      refine el_e c6 (G_e (by omega) (el_e (by omega) (G_e (by omega) (Ob_e t1 (G_e (by omega) (Ob_e t1 (G_e ⟨t2, t2⟩ (if_e rfl (G_e (by omega) (Ob_e n1 (G_e (by omega) (Ob_e n1 (G_e ⟨n2, n2⟩ (if_e rfl ?_))))))))))))))
      refine G_e (by omega) (Ob_e l1 (G_e (by omega) (Ob_e p1 (G_e (by omega) (Ob_e l1 (G_e (by omega) (Ob_e p1 (G_e ⟨p2, p2⟩ (if_e rfl (G_e (by omega) (Ob_e s1 (G_e (by omega) (Ob_e s1 (G_e ⟨s2, s2⟩ (if_e rfl ?_)))))))))))))))
      unfold F_L_areAlike_b132
      exact Bd_e (ih (k + 1) _ (by omega) (by omega) (by omega) (by omega))
theorem alike_ok (E : EA c A) (hc : c + 1 ≤ 900000) (v : Int) : YES A (F_L_areAlike v A A 0) := by
  obtain ⟨t, t1, t2⟩ := x_goes E hc
  obtain ⟨n, n1, n2⟩ := x_isPromising E hc
  obtain ⟨s, s1, s2⟩ := x_siphons E hc
  unfold F_L_areAlike
  refine G_e (by omega) (Ob_e t1 (G_e (by omega) (Ob_e t1 (G_e ⟨t2, t2⟩ (if_e rfl (G_e (by omega) (Ob_e n1 (G_e (by omega) (Ob_e n1 (G_e ⟨n2, n2⟩ (if_e rfl (G_e (by omega) (Ob_e s1 (G_e (by omega) (Ob_e s1 (G_e ⟨s2, s2⟩ (if_e rfl ?_)))))))))))))))))
  unfold F_L_areAlike_b38
  exact alike_loop E hc v NN 0 _ (by omega) (by omega) (NN_gt (by omega)) (by omega)
end AL
