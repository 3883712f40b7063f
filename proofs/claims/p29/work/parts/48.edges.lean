/-! edges and nodes of the graph, as the class and the reference keep them -/
/-- the last edge ahead of E that leads to t; -1 if there is none -/
def prv (ld : Nat → Int) (F t : Int) : Nat → Int
  | 0 => -1
  | E + 1 => if ((E % 8 : Nat) : Int) < F ∧ ld E = t then (E : Int) else prv ld F t E
theorem prv_cong {a b : Nat → Int} {F t : Int} : ∀ E : Nat, (∀ e, e < E → a e = b e) → prv a F t E = prv b F t E
  | 0, _ => rfl
  | E + 1, h => by rw [prv, prv, h E (by omega), prv_cong E (fun e he => h e (by omega))]
theorem prv_none {a : Nat → Int} {F t : Int} : ∀ E : Nat, (∀ e, e < E → ((e % 8 : Nat) : Int) < F → a e ≠ t) → prv a F t E = -1
  | 0, _ => rfl
  | E + 1, h => by rw [prv, if_neg (fun z => h E (by omega) z.1 z.2), prv_none E (fun e he => h e (by omega))]
def ER (F : Int) (E : Nat) (n : Int) (ta la ne ld : Nat → Int) : Prop :=
  (∀ e : Nat, e < E → ((e % 8 : Nat) : Int) < F → ta e = ld e ∧ -1 ≤ ld e ∧ ld e < n) ∧
  (∀ k : Int, 0 ≤ k → k < n → la k.toNat = prv ld F k E) ∧
  (∀ e : Nat, e < E → ((e % 8 : Nat) : Int) < F → 0 ≤ ld e → ne e = prv ld F (ld e) e)
theorem ER_skip {F n : Int} {E : Nat} {ta la ne ld : Nat → Int} (h : ER F E n ta la ne ld) (hE : ¬ ((E % 8 : Nat) : Int) < F) : ER F (E + 1) n ta la ne ld := by
  refine ⟨fun e he hf => ?_, fun k k1 k2 => ?_, fun e he hf hl => ?_⟩
  · rcases Nat.lt_succ_iff_lt_or_eq.mp he with q | q
    · exact h.1 e q hf
    · rw [q] at hf; exact absurd hf hE
  · rw [prv, if_neg (fun z => hE z.1)]
    exact h.2.1 k k1 k2
  · rcases Nat.lt_succ_iff_lt_or_eq.mp he with q | q
    · exact h.2.2 e q hf hl
    · rw [q] at hf; exact absurd hf hE
theorem ER_none {F n : Int} {E : Nat} {ta la ne ld : Nat → Int} (h : ER F E n ta la ne ld) (h0 : 0 ≤ n) : ER F (E + 1) n (uI ta E (-1)) la ne (uI ld E (-1)) := by
  have hc : ∀ e, e < E → uI ld E (-1) e = ld e := fun e he => uI_ne _ _ (by omega)
  refine ⟨fun e he hf => ?_, fun k k1 k2 => ?_, fun e he hf hl => ?_⟩
  · rcases Nat.lt_succ_iff_lt_or_eq.mp he with q | q
    · rw [uI_ne _ _ (by omega), hc e q]; exact h.1 e q hf
    · rw [q, uI_same, uI_same]
      exact ⟨rfl, by omega, by omega⟩
  · rw [prv, uI_same, if_neg (fun z => by omega), prv_cong E hc]
    exact h.2.1 k k1 k2
  · rcases Nat.lt_succ_iff_lt_or_eq.mp he with q | q
    · rw [hc e q] at hl ⊢
      rw [prv_cong e (fun e' he' => hc e' (by omega))]
      exact h.2.2 e q hf hl
    · rw [q, uI_same] at hl; omega
theorem ER_old {F n k : Int} {E : Nat} {ta la ne ld : Nat → Int} (h : ER F E n ta la ne ld) (hE : ((E % 8 : Nat) : Int) < F) (hk : 0 ≤ k ∧ k < n) : ER F (E + 1) n (uI (uI ta E (-1)) E k) (uI la k.toNat (E : Int)) (uI ne E (la k.toNat)) (uI ld E k) := by
  have hc : ∀ e, e < E → uI ld E k e = ld e := fun e he => uI_ne _ _ (by omega)
  refine ⟨fun e he hf => ?_, fun j j1 j2 => ?_, fun e he hf hl => ?_⟩
  · rcases Nat.lt_succ_iff_lt_or_eq.mp he with q | q
    · rw [uI_ne _ _ (by omega), uI_ne _ _ (by omega), hc e q]; exact h.1 e q hf
    · rw [q, uI_same, uI_same]; exact ⟨rfl, by omega, hk.2⟩
  · rw [prv, uI_same]
    by_cases q : j = k
    · rw [q, uI_same, if_pos ⟨hE, rfl⟩]
    · rw [uI_ne _ _ (by omega), if_neg (fun z => q z.2.symm), prv_cong E hc]
      exact h.2.1 j j1 j2
  · rcases Nat.lt_succ_iff_lt_or_eq.mp he with q | q
    · rw [hc e q] at hl ⊢
      rw [uI_ne _ _ (by omega), prv_cong e (fun e' he' => hc e' (by omega))]
      exact h.2.2 e q hf hl
    · rw [q, uI_same, uI_same, prv_cong E hc]
      exact h.2.1 k hk.1 hk.2
theorem ER_grow {F n : Int} {E : Nat} {ta la ne ld : Nat → Int} (h : ER F E n ta la ne ld) (h0 : 0 ≤ n) : ER F E (n + 1) ta (uI la n.toNat (-1)) ne ld := by
  refine ⟨fun e he hf => ?_, fun j j1 j2 => ?_, h.2.2⟩
  · have := h.1 e he hf
    omega
  · by_cases q : j = n
    · rw [q, uI_same, prv_none E (fun e he hf => ?_)]
      have := h.1 e he hf
      omega
    · rw [uI_ne _ _ (by omega)]
      exact h.2.1 j j1 (by omega)
/-- the tokens of the places that there are -/
def cut (P : Int) (t : Int → Int) : Int → Int := fun p => if p < P then t p else 0
theorem cut_b {P : Int} {t : Int → Int} (h : tOk P t) : bOk 100 (cut P t) := fun p h1 h2 => by
  unfold cut
  split
  · have := h p h1 (by assumption); omega
  · omega
theorem cut_0 {P : Int} {t : Int → Int} : ∀ p : Int, P ≤ p → p < 6 → cut P t p = 0 := fun p h1 h2 => if_neg (by omega)
theorem cut_can {P : Int} {w : Nat → Int} {t : Int → Int} {f : Int} : can P w (cut P t) f ↔ can P w t f := by
  have e : ∀ p : Int, p < P → cut P t p = t p := fun p h => if_pos h
  constructor
  · intro h p p1 p2
    have := h p p1 p2
    unfold okp aft at this ⊢
    rw [e p p2] at this
    exact this
  · intro h p p1 p2
    have := h p p1 p2
    unfold okp aft at this ⊢
    rw [e p p2]
    exact this
theorem cut_eq {P : Int} {t u : Int → Int} (h : eqP P t u) : pk (cut P t) = pk (cut P u) := pk_cong fun p p1 p2 => by
  unfold cut
  split
  · exact h p p1 (by assumption)
  · rfl
theorem cut_inj {P : Int} {t u : Int → Int} (ht : tOk P t) (hu : tOk P u) (hP : P ≤ 6) (e : pk (cut P t) = pk (cut P u)) : eqP P t u := fun p p1 p2 => by
  have := pk_inj (bOk_le (cut_b ht) (by omega)) (bOk_le (cut_b hu) (by omega)) e p p1 (by omega)
  unfold cut at this
  rw [if_pos p2, if_pos p2] at this
  exact this
/-- the marking behind a firing, of the places that there are -/
theorem aft_cut {P : Int} {w : Nat → Int} {t : Int → Int} {f : Int} (ho : wOut P w) (hP : 0 ≤ P) (hf : 0 ≤ f ∧ f < 8) {u : Int → Int} (hu : eqP P u (aftM w t f)) : pk (aftM w (cut P t) f) = pk (cut P u) := pk_cong fun p p1 p2 => by
  by_cases h : p < P
  · rw [show cut P u p = u p from if_pos h, hu p p1 h]
    unfold aftM aft
    rw [show cut P t p = t p from if_pos h]
  · rw [show cut P u p = 0 from if_neg h]
    have o0 := ho 0 f p (by omega) (by omega) hf.1 hf.2 (by omega) p2
    have o1 := ho 1 f p (by omega) (by omega) hf.1 hf.2 (by omega) p2
    have o4 := ho 4 f p (by omega) (by omega) hf.1 hf.2 (by omega) p2
    unfold aftM aft
    rw [o0, o1, o4, show cut P t p = 0 from if_neg h]
    decide
/-- nodes: the markings found, how each was come to -/
def NR (P F n : Int) (found : Nat → Int64) (de fb : Nat → Int) (mk wh by_ : Nat → Int) : Prop :=
  (∀ k : Int, 0 ≤ k → k < n → tOk P (row mk k) ∧ found k.toNat = pk (cut P (row mk k))) ∧
  (∀ j k : Int, 0 ≤ j → j < k → k < n → ¬ eqP P (row mk j) (row mk k)) ∧
  (∀ k : Int, 1 ≤ k → k < n → 0 ≤ wh k.toNat ∧ wh k.toNat < k ∧ 0 ≤ by_ k.toNat ∧ by_ k.toNat < F ∧ fb k.toNat = 8 * wh k.toNat + by_ k.toNat ∧ de k.toNat = de (wh k.toNat).toNat + 1) ∧
  de 0 = 0 ∧ fb 0 = -1 ∧ ∀ k : Int, 0 ≤ k → k < n → 0 ≤ de k.toNat ∧ de k.toNat ≤ k
theorem NR_new {P F n m f : Int} {found : Nat → Int64} {de fb mk wh by_ mk' : Nat → Int} (h : NR P F n found de fb mk wh by_) (hP : 0 ≤ P ∧ P ≤ 6) (hn : 1 ≤ n) (hm : 0 ≤ m ∧ m < n) (hf : 0 ≤ f ∧ f < F) (ht : tOk P (row mk' n)) (hk : ∀ j : Nat, (j < 6 * n ∨ 6 * n + P ≤ j) → mk' j = mk j)
    (hd : ∀ k : Int, 0 ≤ k → k < n → ¬ eqP P (row mk' k) (row mk' n)) : NR P F (n + 1) (uI found n.toNat (pk (cut P (row mk' n)))) (uI de n.toNat (de m.toNat + 1)) (uI fb n.toNat (8 * m + f)) mk' (uI wh n.toNat m) (uI by_ n.toNat f) := by
  have hrow : ∀ k : Int, 0 ≤ k → k < n → ∀ p : Int, 0 ≤ p → p < P → row mk' k p = row mk k p := fun k k1 k2 p p1 p2 => hk _ (Or.inl (by omega))
  refine ⟨fun k k1 k2 => ?_, fun j k j1 j2 j3 => ?_, fun k k1 k2 => ?_, ?_, ?_, fun k k1 k2 => ?_⟩
  · by_cases q : k = n
    · rw [q, uI_same]; exact ⟨ht, rfl⟩
    · have := h.1 k k1 (by omega)
      rw [uI_ne _ _ (by omega)]
      refine ⟨fun p p1 p2 => by rw [hrow k k1 (by omega) p p1 p2]; exact this.1 p p1 p2, this.2.trans (cut_eq (fun p p1 p2 => (hrow k k1 (by omega) p p1 p2).symm))⟩
  · by_cases q : k = n
    · rw [q]; exact hd j j1 (by omega)
    · intro z
      refine h.2.1 j k j1 j2 (by omega) (fun p p1 p2 => ?_)
      have := z p p1 p2
      rw [hrow j j1 (by omega) p p1 p2, hrow k (by omega) (by omega) p p1 p2] at this
      exact this
  · by_cases q : k = n
    · subst q
      rw [uI_same, uI_same, uI_same, uI_same, uI_ne de _ (by omega)]
      exact ⟨hm.1, hm.2, hf.1, hf.2, rfl, rfl⟩
    · have := h.2.2.1 k k1 (by omega)
      rw [uI_ne wh _ (by omega), uI_ne by_ _ (by omega), uI_ne fb _ (by omega), uI_ne de _ (by omega : k.toNat ≠ n.toNat), uI_ne de _ (by omega)]
      exact this
  · rw [uI_ne _ _ (by omega)]; exact h.2.2.2.1
  · rw [uI_ne _ _ (by omega)]; exact h.2.2.2.2.1
  · by_cases q : k = n
    · subst q
      rw [uI_same]
      have := h.2.2.2.2.2 m hm.1 hm.2
      omega
    · rw [uI_ne _ _ (by omega)]
      have := h.2.2.2.2.2 k k1 (by omega)
      omega
