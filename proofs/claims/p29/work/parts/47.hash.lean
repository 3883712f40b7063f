/-! the class's table of markings: open places, one behind the other -/
def hs (x : Int64) : Int := lToI (lUshr (x * (-7046029254386353131 : Int64)) 54)
theorem hs_in (x : Int64) : 0 ≤ hs x ∧ hs x < 1024 := by
  unfold hs
  generalize x * (-7046029254386353131 : Int64) = y
  have h1 : uN (lUshr y 54) = uN y / 2 ^ 54 := by
    unfold lUshr
    rw [uN_shr]
    congr 1
  have h2 := uN_lt y
  obtain ⟨n, hn, e⟩ := wb_of (lUshr y 54)
  have h3 : uN (lUshr y 54) = n := by
    rw [e]
    unfold uN
    exact wb_tn hn
  rw [e, lToI_ok (by omega)]
  omega
theorem iAnd_1023 {a : Int} (h : 0 ≤ a ∧ a < 2147483648) : iAnd a 1023 = a % 1024 := by
  have h1 := pk_and (vI a) (m := vI 1023) 10 (by decide)
  have h2 : (vI a).toBitVec.toNat = a.toNat := by
    rw [vI_nat h.1]
    exact pk_tn (by omega)
  unfold iAnd
  rw [h1, h2, nI_toInt (by have := Nat.mod_lt a.toNat (show 0 < 2 ^ 10 by decide); omega)]
  omega
/-- how many places of a row are taken -/
def taken (f : Nat → Int) : Nat → Int
  | 0 => 0
  | n + 1 => taken f n + (if f n = -1 then 0 else 1)
theorem taken_put {f : Nat → Int} {s : Nat} {x : Int} (h : f s = -1) (hx : x ≠ -1) : ∀ n : Nat, taken (uI f s x) n = taken f n + (if s < n then 1 else 0)
  | 0 => by simp [taken]
  | n + 1 => by
    rw [taken, taken, taken_put h hx n]
    by_cases e : n = s
    · subst e
      rw [uI_same, if_neg hx, h, if_pos rfl, if_neg (by omega), if_pos (by omega)]
    · rw [uI_ne _ _ e]
      by_cases q : s < n
      · rw [if_pos q, if_pos (by omega : s < n + 1)]; omega
      · rw [if_neg q, if_neg (by omega : ¬ s < n + 1)]; omega
theorem taken_free {f : Nat → Int} : ∀ n : Nat, taken f n < n → ∃ s, s < n ∧ f s = -1
  | 0, h => absurd h (by simp [taken])
  | n + 1, h => by
    by_cases e : f n = -1
    · exact ⟨n, by omega, e⟩
    · rw [taken, if_neg e] at h
      obtain ⟨s, h1, h2⟩ := taken_free (f := f) n (by omega)
      exact ⟨s, by omega, h2⟩
theorem taken_all {f : Nat → Int} : ∀ n : Nat, (∀ s, s < n → f s = -1) → taken f n = 0
  | 0, _ => rfl
  | n + 1, h => by rw [taken, taken_all n (fun s hs => h s (by omega)), if_pos (h n (by omega))]; rfl
def slot (h i : Int) : Nat := ((h + i) % 1024).toNat
def HS (c : Int) (found : Nat → Int64) (slots : Nat → Int) : Prop :=
  (∀ s : Nat, s < 1024 → slots s = -1 ∨ (0 ≤ slots s ∧ slots s < c)) ∧
  (∀ k : Int, 0 ≤ k → k < c → ∃ i : Int, 0 ≤ i ∧ i < 1024 ∧ slots (slot (hs (found k.toNat)) i) = k ∧ ∀ j : Int, 0 ≤ j → j < i → slots (slot (hs (found k.toNat)) j) ≠ -1) ∧
  taken slots 1024 = c
theorem slot_lt (h i : Int) : slot h i < 1024 := by unfold slot; omega
theorem slotOf_ok {c : Int} {found : Nat → Int64} {slots : Nat → Int} {x : Int64} (H : HS c found slots) (hc : 0 ≤ c ∧ c ≤ 300) :
    ∃ r, F_X1_slotOf x c found slots = some r ∧ 0 ≤ r ∧ r < 1024 ∧ ((slots r.toNat = -1 ∧ (∀ k : Int, 0 ≤ k → k < c → found k.toNat ≠ x) ∧ ∃ i : Int, 0 ≤ i ∧ i < 1024 ∧ r.toNat = slot (hs x) i ∧ ∀ j : Int, 0 ≤ j → j < i → slots (slot (hs x) j) ≠ -1) ∨ (0 ≤ slots r.toNat ∧ slots r.toNat < c ∧ found (slots r.toNat).toNat = x)) := by
  have hh := hs_in x
  obtain ⟨h, eh⟩ : ∃ h, h = hs x := ⟨_, rfl⟩
  rw [← eh] at hh ⊢
  have key : ∀ (n : Nat) (l3 i : Int), 0 ≤ i → i ≤ 1024 → 1024 - i < n → l3 = (h + i) % 1024 → (∀ j : Int, 0 ≤ j → j < i → slots (slot (h) j) ≠ -1 ∧ found (slots (slot (h) j)).toNat ≠ x) →
      ∃ r, F_X1_slotOf_b13 c found slots n x l3 i = some r ∧ 0 ≤ r ∧ r < 1024 ∧ ((slots r.toNat = -1 ∧ (∀ k : Int, 0 ≤ k → k < c → found k.toNat ≠ x) ∧ ∃ i : Int, 0 ≤ i ∧ i < 1024 ∧ r.toNat = slot (h) i ∧ ∀ j : Int, 0 ≤ j → j < i → slots (slot (h) j) ≠ -1) ∨ (0 ≤ slots r.toNat ∧ slots r.toNat < c ∧ found (slots r.toNat).toNat = x)) := by
    intro n
    induction n with
    | zero => intro l3 i h1 h2 h3; exact absurd h3 (by omega)
    | succ n ih =>
      intro l3 i h1 h2 h3 h4 h5
      show ∃ r, F_X1_slotOf_b13_body c found slots (F_X1_slotOf_b13 c found slots n) x l3 i = some r ∧ _
      unfold F_X1_slotOf_b13_body F_X1_slotOf_b72
      refine G_e (by omega) ?_
      by_cases hi : 1024 ≤ i
      · exfalso
        obtain ⟨s0, q1, q2⟩ := taken_free (f := slots) 1024 (by rw [H.2.2]; omega)
        have := (h5 (((s0 : Int) - h) % 1024) (by omega) (by omega)).1
        rw [show slot (h) (((s0 : Int) - h) % 1024) = s0 by unfold slot; omega] at this
        exact this q2
      · refine el_e hi (G_e (by omega) (Bd_e ?_))
        have es : l3.toNat = slot (h) i := by unfold slot; rw [h4]
        rw [es]
        have ha := H.1 (slot (h) i) (slot_lt _ _)
        generalize hv : slots (slot (h) i) = v at ha ⊢
        refine G_e (by omega) ?_
        by_cases c1 : v < 0
        · refine if_e c1 (so_e ⟨by omega, by omega, Or.inl ⟨by rw [es, hv]; omega, fun k k1 k2 e => ?_, i, h1, by omega, es, fun j j1 j2 => (h5 j j1 j2).1⟩⟩)
          obtain ⟨ik, g1, g2, g3, g4⟩ := H.2.1 k k1 k2
          rw [e, ← eh] at g3 g4
          rcases Int.lt_trichotomy ik i with q | q | q
          · exact (h5 ik g1 q).2 (by rw [g3]; exact e)
          · rw [q, hv] at g3; omega
          · exact g4 i h1 q (by rw [hv]; omega)
        · refine el_e c1 (G_e (by omega) (el_e (by omega) (G_e (by omega) (Bd_e ?_))))
          by_cases c2 : found v.toNat = x
          · exact if_e c2 (so_e ⟨by omega, by omega, Or.inr ⟨by rw [es, hv]; omega, by rw [es, hv]; omega, by rw [es, hv]; exact c2⟩⟩)
          · refine el_e c2 (Bd_e (Bd_e (ih _ (i + 1) (by omega) (by omega) (by omega) ?_ (fun j j1 j2 => ?_))))
            · rw [iAnd_1023 (by omega), h4]
              omega
            · by_cases hj : j = i
              · rw [hj, hv]; exact ⟨by omega, c2⟩
              · exact h5 j j1 (by omega)
  unfold F_X1_slotOf
  exact Bd_e (key NN _ 0 (by omega) (by omega) (NN_gt (by omega)) (by rw [show lToI (lUshr (x * (-7046029254386353131 : Int64)) 54) = h from eh.symm]; omega) (fun j j1 j2 => absurd j2 (by omega)))
theorem HS_put {c : Int} {found : Nat → Int64} {slots : Nat → Int} {x : Int64} {s : Nat} {i : Int} (H : HS c found slots) (hc : 0 ≤ c ∧ c < 300) (hs0 : slots s = -1) (hi : 0 ≤ i ∧ i < 1024) (es : s = slot (hs x) i) (hb : ∀ j : Int, 0 ≤ j → j < i → slots (slot (hs x) j) ≠ -1) : HS (c + 1) (uI found c.toNat x) (uI slots s c) := by
  have hlt : s < 1024 := by rw [es]; exact slot_lt _ _
  refine ⟨fun s' h1 => ?_, fun k k1 k2 => ?_, ?_⟩
  · by_cases e : s' = s
    · rw [e, uI_same]; omega
    · rw [uI_ne _ _ e]
      have := H.1 s' h1
      omega
  · by_cases e : k = c
    · subst e
      refine ⟨i, hi.1, hi.2, ?_, fun j j1 j2 => ?_⟩
      · rw [uI_same, ← es, uI_same]
      · rw [uI_same]
        by_cases q : slot (hs x) j = s
        · rw [q, uI_same]; omega
        · rw [uI_ne _ _ q]; exact hb j j1 j2
    · obtain ⟨ik, g1, g2, g3, g4⟩ := H.2.1 k k1 (by omega)
      rw [uI_ne found x (by omega : k.toNat ≠ c.toNat)]
      refine ⟨ik, g1, g2, ?_, fun j j1 j2 => ?_⟩
      · rw [uI_ne _ _ (fun q => by rw [q] at g3; omega)]; exact g3
      · by_cases q : slot (hs (found k.toNat)) j = s
        · rw [q, uI_same]; omega
        · rw [uI_ne _ _ q]; exact g4 j j1 j2
  · rw [taken_put hs0 (by omega), H.2.2, if_pos hlt]
/-- an index for a marking: the one that it has, a new one, or none if that would be one too many -/
theorem indexFor_ok {c : Int} {found : Nat → Int64} {slots depths foundBy lastInto : Nat → Int} {x : Int64} {e d : Int} (H : HS c found slots) (hc : 0 ≤ c ∧ c ≤ 300) :
    ∃ r, F_X1_indexFor x e d c found slots depths foundBy lastInto = some r ∧
      ((0 ≤ r.1 ∧ r.1 < c ∧ found r.1.toNat = x ∧ r.2 = (c, found, slots, depths, foundBy, lastInto)) ∨
       ((∀ k : Int, 0 ≤ k → k < c → found k.toNat ≠ x) ∧ c = 300 ∧ r.1 = -1 ∧ r.2 = (c, found, slots, depths, foundBy, lastInto)) ∨
       ((∀ k : Int, 0 ≤ k → k < c → found k.toNat ≠ x) ∧ c < 300 ∧ r.1 = c ∧ ∃ slots', HS (c + 1) (uI found c.toNat x) slots' ∧ r.2 = (c + 1, uI found c.toNat x, slots', uI depths c.toNat d, uI foundBy c.toNat e, uI lastInto c.toNat (-1)))) := by
  obtain ⟨s, g1, g2, g3, g4⟩ := slotOf_ok (x := x) H hc
  have ha := H.1 s.toNat (by omega)
  unfold F_X1_indexFor
  refine Ob_e g1 (G_e (by omega) (Bd_e (G_e (by omega) ?_)))
  rcases g4 with ⟨q1, q2, i, q3, q4, q5, q6⟩ | ⟨q1, q2, q3⟩
  · refine if_e q1 (G_e (by omega) ?_)
    by_cases h : c < 300
    · refine if_e h ?_
      (repeat (first | (with_reducible refine Bd_e ?_) | (with_reducible refine G_e ?_ ?_; · omega) | (with_reducible refine if_e ?_ ?_; · omega) | (with_reducible refine el_e ?_ ?_; · omega)))
      exact so_e (Or.inr (Or.inr ⟨q2, h, rfl, _, HS_put H ⟨hc.1, h⟩ q1 ⟨q3, q4⟩ q5 q6, rfl⟩))
    · exact el_e h (so_e (Or.inr (Or.inl ⟨q2, by omega, rfl, rfl⟩)))
  · refine el_e (by omega) ?_
    (repeat (first | (with_reducible refine Bd_e ?_) | (with_reducible refine G_e ?_ ?_; · omega) | (with_reducible refine if_e ?_ ?_; · omega) | (with_reducible refine el_e ?_ ?_; · omega)))
    exact so_e (Or.inl ⟨q1, q2, q3, rfl⟩)
