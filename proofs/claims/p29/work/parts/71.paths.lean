/-! depths, paths, what lies in the graph -/
def DE (n : Int) (wh de : Nat → Int) : Prop := de 0 = 0 ∧ (∀ k : Int, 1 ≤ k → k < n → de k.toNat = de (wh k.toNat).toNat + 1) ∧ ∀ k : Int, 0 ≤ k → k < n → 0 ≤ de k.toNat
section BG
variable {P F n E : Int} {w tok mk wh by_ ld de : Nat → Int}
theorem de_mono (h : BF P F w tok n E mk wh by_ ld) (hF : F ≤ 8) (hd : DE n wh de) : ∀ (b : Nat) (j k : Int), 0 ≤ j → j ≤ k → k < n → k < b → de j.toNat ≤ de k.toNat := by
  obtain ⟨⟨h0, h0'⟩, ⟨h1, h2⟩, h3, h4, h5⟩ := h
  intro b
  induction b with
  | zero => intro j k j1 j2 j3 j4; exact absurd j4 (by omega)
  | succ b ih =>
    intro j k j1 j2 j3 j4
    by_cases q : j = k
    · rw [q]; exact Int.le_refl _
    · by_cases q0 : j = 0
      · have := hd.2.2 k (by omega) j3
        rw [q0, show (0 : Int).toNat = 0 from rfl, hd.1]
        exact this
      · have a := (h3 j (by omega) (by omega)).1
        have c := (h3 k (by omega) j3).1
        have e := h4 j k (by omega) (by omega) j3
        have i := ih (wh j.toNat) (wh k.toNat) a.1 (by omega) (by omega) (by omega)
        have d1 := hd.2.1 j (by omega) (by omega)
        have d2 := hd.2.1 k (by omega) j3
        omega
/-- an edge leads at most one deeper -/
theorem de_edge (h : BF P F w tok n (8 * n) mk wh by_ ld) (hF : F ≤ 8) (hd : DE n wh de) {m f : Int} (hm : 0 ≤ m ∧ m < n) (hf : 0 ≤ f ∧ f < F) (hc : can P w (row mk m) f) : ∃ c : Int, (0 ≤ c ∧ c < n) ∧ eqP P (row mk c) (aftM w (row mk m) f) ∧ de c.toNat ≤ de m.toNat + 1 := by
  have mono := fun j k a b c => de_mono h hF hd (k.toNat + 1) j k a b c (by omega)
  obtain ⟨⟨h0, h0'⟩, ⟨h1, h2⟩, h3, h4, h5⟩ := h
  obtain ⟨a1, a2, a3⟩ := (h5 m f hm.1 hm.2 hf.1 hf.2 (by omega)).1 hc
  refine ⟨_, a1, a2, ?_⟩
  generalize ld (8 * m + f).toNat = c at a1 a2 a3 ⊢
  have dm := hd.2.2 m hm.1 hm.2
  by_cases q : c = 0
  · rw [q, show (0 : Int).toNat = 0 from rfl, hd.1]; omega
  · have a := (h3 c (by omega) a1.2).1
    have a4 := a3 (by omega)
    have d1 := hd.2.1 c (by omega) a1.2
    have := mono (wh c.toNat) m a.1 (by omega) hm.2
    omega
/-- what is come to lies in the graph, and not deeper than by so many firings -/
theorem in_graph (h : BF P F w tok n (8 * n) mk wh by_ ld) (hF : F ≤ 8) (hd : DE n wh de) : ∀ (j : Nat) (u : Int → Int), RJ P F w (tk tok) j u → ∃ k : Int, (0 ≤ k ∧ k < n) ∧ eqP P (row mk k) u ∧ de k.toNat ≤ j := by
  intro j
  induction j with
  | zero =>
    intro u hu
    have hn := h.1.1
    refine ⟨0, by omega, eqP_tr h.1.2 (eqP_sm hu), ?_⟩
    rw [show (0 : Int).toNat = 0 from rfl, hd.1]
    omega
  | succ j ih =>
    intro u hu
    obtain ⟨v, f, hv, hf, hc, he⟩ := hu
    obtain ⟨k, k1, k2, k3⟩ := ih v hv
    obtain ⟨c, c1, c2, c3⟩ := de_edge h hF hd k1 hf (can_eq k2 hc)
    exact ⟨c, c1, eqP_tr c2 (eqP_tr (aft_eq k2) (eqP_sm he)), by omega⟩
/-- from the first firing of the way on -/
theorem way_back (h : BF P F w tok n E mk wh by_ ld) (hd : DE n wh de) : ∀ (b : Nat) (i : Int), 0 ≤ i → i < n → i < b → 1 ≤ de i.toNat → ∃ r : Int, (1 ≤ r ∧ r < n) ∧ de r.toNat = 1 ∧ wh r.toNat = 0 ∧ RJ P F w (row mk r) (de i.toNat - 1).toNat (row mk i) := by
  obtain ⟨⟨h0, h0'⟩, ⟨h1, h2⟩, h3, h4, h5⟩ := h
  intro b
  induction b with
  | zero => intro i i1 i2 i3; exact absurd i3 (by omega)
  | succ b ih =>
    intro i i1 i2 i3 i4
    have q0 : i ≠ 0 := fun z => by
      rw [z, show (0 : Int).toNat = 0 from rfl, hd.1] at i4
      omega
    obtain ⟨a, c, e⟩ := h3 i (by omega) i2
    have d1 := hd.2.1 i (by omega) i2
    have d0 := hd.2.2 (wh i.toNat) a.1 (by omega)
    by_cases q : wh i.toNat = 0
    · have d2 : de i.toNat = 1 := by
        rw [q, show (0 : Int).toNat = 0 from rfl, hd.1] at d1
        omega
      refine ⟨i, by omega, d2, q, ?_⟩
      rw [d2]
      exact fun p _ _ => rfl
    · have q1 : 1 ≤ de (wh i.toNat).toNat := by
        have := hd.2.1 (wh i.toNat) (by omega) (by omega)
        have := hd.2.2 (wh (wh i.toNat).toNat) (h3 (wh i.toNat) (by omega) (by omega)).1.1 (by have := (h3 (wh i.toNat) (by omega) (by omega)).1; omega)
        omega
      obtain ⟨r, r1, r2, r3, r4⟩ := ih (wh i.toNat) a.1 (by omega) (by omega) q1
      refine ⟨r, r1, r2, r3, ?_⟩
      rw [show (de i.toNat - 1).toNat = (de (wh i.toNat).toNat - 1).toNat + 1 by omega]
      exact ⟨_, _, r4, ⟨a.2.2.1, a.2.2.2.1⟩, c, e⟩
end BG
/-! one firing more that does nothing -/
theorem pigeon : ∀ (n : Nat) (g : Nat → Nat), (∀ i, i ≤ n → g i < n) → ∃ i j, i < j ∧ j ≤ n ∧ g i = g j := by
  intro n
  induction n with
  | zero => intro g h; exact absurd (h 0 (Nat.le_refl _)) (Nat.not_lt_zero _)
  | succ n ih =>
    intro g h
    by_cases q : ∃ i, i ≤ n ∧ g i = g (n + 1)
    · obtain ⟨i, i1, i2⟩ := q
      exact ⟨i, n + 1, by omega, Nat.le_refl _, i2⟩
    · have hne : ∀ i, i ≤ n → g i ≠ g (n + 1) := fun i hi z => q ⟨i, hi, z⟩
      obtain ⟨i, j, a, b, c⟩ := ih (fun i => if g i = n then g (n + 1) else g i) (fun i hi => by
        have h1 := h i (by omega)
        have h2 := h (n + 1) (Nat.le_refl _)
        have h3 := hne i hi
        split <;> omega)
      refine ⟨i, j, a, by omega, ?_⟩
      have e1 := hne i (by omega)
      have e2 := hne j b
      split at c <;> split at c <;> omega
/-- the weights of a firing are all 0 -/
def idle (P : Int) (w : Nat → Int) (f : Int) : Prop := ∀ k p : Int, 0 ≤ k → k < 5 → 0 ≤ p → p < P → wt w k f p = 0
theorem idle_aft {P : Int} {w : Nat → Int} {f : Int} {t : Int → Int} (h : idle P w f) : eqP P (aftM w t f) t := fun p a b => by
  unfold aftM aft
  rw [h 4 p (by omega) (by omega) a b, h 0 p (by omega) (by omega) a b, h 1 p (by omega) (by omega) a b]
  rw [if_neg (by omega)]
  omega
theorem idle_can {P : Int} {w : Nat → Int} {f : Int} {t : Int → Int} (h : idle P w f) (ht : tOk P t) : can P w t f := fun p a b => by
  have e := idle_aft (t := t) h p a b
  have q := ht p a b
  unfold aftM at e
  refine ⟨?_, ?_, Or.inl (h 3 p (by omega) (by omega) a b), by rw [e]; exact q.2⟩
  · rw [h 0 p (by omega) (by omega) a b]; exact q.1
  · rw [h 2 p (by omega) (by omega) a b]; exact q.1
theorem RJ_idle {P F : Int} {w : Nat → Int} {t : Int → Int} (h : idle P w F) : ∀ (j : Nat) (u : Int → Int), RJ P (F + 1) w t j u → ∃ i, RJ P F w t i u := by
  intro j
  induction j with
  | zero => intro u hu; exact ⟨0, hu⟩
  | succ j ih =>
    intro u hu
    obtain ⟨v, f, hv, hf, hc, he⟩ := hu
    obtain ⟨i, hi⟩ := ih v hv
    by_cases q : f = F
    · rw [q] at he
      exact ⟨i, RJ_eq (eqP_tr he (idle_aft h)) hi⟩
    · exact ⟨i + 1, v, f, hi, by omega, hc, he⟩
/-- a net that isn't too great isn't so with an idle firing more -/
theorem idle_fits {P F n : Int} {w tok mk wh by_ ld de : Nat → Int} (h : BF P F w tok n (8 * n) mk wh by_ ld) (hF : F ≤ 8) (hd : DE n wh de) (hi : idle P w F) : ¬ TM P (F + 1) w tok := by
  rintro ⟨T, h1, h2⟩
  have hn := h.1.1
  have hk : ∀ i : Nat, ∃ k : Nat, i ≤ 300 → ((k : Int) < n ∧ eqP P (row mk k) (T i)) := fun i => by
    by_cases q : i ≤ 300
    · obtain ⟨j, hj⟩ := h1 i (by omega) (by omega)
      obtain ⟨j', hj'⟩ := RJ_idle hi j _ hj
      obtain ⟨k, k1, k2, -⟩ := in_graph h hF hd j' _ hj'
      refine ⟨k.toNat, fun _ => ⟨by omega, ?_⟩⟩
      rw [show ((k.toNat : Nat) : Int) = k by omega]
      exact k2
    · exact ⟨0, fun z => absurd z q⟩
  obtain ⟨g, hg⟩ := Classical.axiomOfChoice hk
  obtain ⟨i, j, a, b, c⟩ := pigeon 300 g (fun i hi => by have := (hg i hi).1; omega)
  have e1 := (hg i (by omega)).2
  have e2 := (hg j b).2
  rw [c] at e1
  exact h2 i j (by omega) (by omega) (by omega) (eqP_tr (eqP_sm e1) e2)
