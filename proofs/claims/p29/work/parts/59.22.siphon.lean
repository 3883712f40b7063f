/-! siphons: class and reference keep the same list -/
def siS (P F : Int) (w : Nat → Int) (s : Nat) : Prop := 1 ≤ s ∧ ∀ f : Int, 0 ≤ f → f < F → (so w 1 f P.toNat &&& s = 0 ∨ so w 0 f P.toNat &&& s ≠ 0)
noncomputable def kSi (P F : Int) (w : Nat → Int) (c : Nat) : List Nat := kp (siS P F w) sub c
def idI (n : Nat) : Int := (n : Int)
theorem kSi_len {P F : Int} {w : Nat → Int} {c : Nat} (hc : c ≤ 64) : (kSi P F w c).length ≤ 20 := by
  have h1 : (kSi P F w c).length = ((kSi P F w c).map (fun (s : Nat) (p : Nat) => (if s.testBit p = true then 1 else 0 : Nat))).length := (List.length_map _).symm
  rw [h1, ← nb_sets]
  refine anti_len _ (fun v hv p _ => ?_) (List.pairwise_map.mpr (List.Pairwise.imp_of_mem ?_ (kp_pw (S := siS P F w) (bel := sub) c)))
  · obtain ⟨s, -, rfl⟩ := List.mem_map.mp hv
    dsimp only
    split <;> omega
  · intro a b ha hb h
    have la := (kp_mem _ a ha).1
    have lb := (kp_mem _ b hb).1
    have out : ∀ x y : Nat, x < 64 → ¬ sub x y → ∃ p, p < 6 ∧ (if y.testBit p = true then 1 else 0 : Nat) < (if x.testBit p = true then 1 else 0 : Nat) := fun x y hx hn => by
      refine Classical.byContradiction fun z => hn (sub_iff.mpr fun i hi => Classical.byContradiction fun hq => z ⟨i, ?_, ?_⟩)
      · refine Decidable.byContradiction fun q => ?_
        rw [Nat.testBit_lt_two_pow (Nat.lt_of_lt_of_le (show x < 2 ^ 6 by omega) (Nat.pow_le_pow_right (by decide) (by omega)))] at hi
        exact absurd hi (by decide)
      · rw [if_pos hi, if_neg hq]; omega
    refine ⟨out a b (by omega) h.2, out b a (by omega) (fun z => ?_)⟩
    have := sub_le z
    omega
theorem X_isSiphon_ok {P F : Int} {w ta gi : Nat → Int} {s : Nat} (hP : 0 ≤ P ∧ P ≤ 6) (hF : 0 ≤ F ∧ F ≤ 8) (hs : 1 ≤ s ∧ s < 2147483648) (ht : ∀ f : Int, 0 ≤ f → f < F → ta f.toNat = ((so w 0 f P.toNat : Nat) : Int)) (hg : ∀ f : Int, 0 ≤ f → f < F → gi f.toNat = ((so w 1 f P.toNat : Nat) : Int)) :
    ∃ r, F_X4_isSiphon (s : Int) F ta gi = some r ∧ isB r (siS P F w s) := by
  have key : ∀ (fu : Nat) (f : Int), 0 ≤ f → f ≤ F → F - f < fu → (∀ g : Int, 0 ≤ g → g < f → (so w 1 g P.toNat &&& s = 0 ∨ so w 0 g P.toNat &&& s ≠ 0)) → ∃ r, F_X4_isSiphon_b2 F ta gi fu (s : Int) f = some r ∧ isB r (siS P F w s) := by
    intro fu
    induction fu with
    | zero => intro f h1 h2 h3; exact absurd h3 (by omega)
    | succ fu ih =>
      intro f h1 h2 h3 h4
      show ∃ r, F_X4_isSiphon_b2_body F ta gi (F_X4_isSiphon_b2 F ta gi fu) (s : Int) f = some r ∧ _
      unfold F_X4_isSiphon_b2_body
      refine G_e (by omega) ?_
      by_cases c : F ≤ f
      · refine if_e c (G_e (Or.inr rfl) (so_e (Or.inl ⟨rfl, hs.1, fun g g1 g2 => h4 g g1 (by omega)⟩)))
      · have go : (so w 1 f P.toNat &&& s = 0 ∨ so w 0 f P.toNat &&& s ≠ 0) → ∃ r, F_X4_isSiphon_b34 F ta gi (F_X4_isSiphon_b2 F ta gi fu) (s : Int) f = some r ∧ isB r (siS P F w s) := fun h => ih (f + 1) (by omega) (by omega) (by omega) (fun g g1 g2 => by
          by_cases e : g = f
          · rw [e]; exact h
          · exact h4 g g1 (by omega))
        have l1 := so_64 (w := w) (k := 1) (f := f) hP
        have l0 := so_64 (w := w) (k := 0) (f := f) hP
        have a1 : so w 1 f P.toNat &&& s ≤ so w 1 f P.toNat := Nat.and_le_left
        have a0 : so w 0 f P.toNat &&& s ≤ so w 0 f P.toNat := Nat.and_le_left
        refine el_e c (G_e (by omega) (Bd_e ?_))
        rw [hg f h1 (by omega), iAnd_n (by omega)]
        refine Bd_e (G_e (by omega) ?_)
        by_cases z : so w 1 f P.toNat &&& s = 0
        · exact if_e (by omega) (go (Or.inl z))
        · refine el_e (by omega) (G_e (by omega) (Bd_e ?_))
          rw [ht f h1 (by omega), iAnd_n (by omega)]
          refine Bd_e (G_e (by omega) ?_)
          by_cases y : so w 0 f P.toNat &&& s = 0
          · exact if_e (by omega) (G_e (Or.inl rfl) (so_e (Or.inr ⟨rfl, fun q => (q.2 f h1 (by omega)).elim z (fun t => t y)⟩)))
          · exact el_e (by omega) (go (Or.inr y))
  unfold F_X4_isSiphon
  exact key NN 0 (by omega) hF.1 (NN_gt (by omega)) (fun g g1 g2 => absurd g2 (by omega))
theorem M_isSiphon_ok {P F : Int} {w : Nat → Int} {s : Nat} (hw : wOk w) (hP : 0 ≤ P ∧ P ≤ 6) (hF : 0 ≤ F ∧ F ≤ 8) (hs : 1 ≤ s ∧ s < 2147483648) :
    ∃ r, F_X6_isSiphon (s : Int) P F w = some r ∧ isB r (siS P F w s) := by
  have key : ∀ (fu : Nat) (d f : Int), 0 ≤ f → f ≤ F → F - f < fu → isB d (∀ g : Int, 0 ≤ g → g < f → (so w 1 g P.toNat &&& s = 0 ∨ so w 0 g P.toNat &&& s ≠ 0)) → ∃ r, F_X6_isSiphon_b4 P F w fu (s : Int) d f = some r ∧ isB r (siS P F w s) := by
    intro fu
    induction fu with
    | zero => intro d f h1 h2 h3; exact absurd h3 (by omega)
    | succ fu ih =>
      intro d f h1 h2 h3 h4
      show ∃ r, F_X6_isSiphon_b4_body P F w (F_X6_isSiphon_b4 P F w fu) (s : Int) d f = some r ∧ _
      unfold F_X6_isSiphon_b4_body
      refine G_e (by omega) ?_
      by_cases c : F ≤ f
      · refine if_e c (G_e (isB_01 h4) (so_e (isB_iff h4 ?_)))
        rw [show f = F by omega]
        exact ⟨fun q => ⟨hs.1, q⟩, fun q => q.2⟩
      · have hf : 0 ≤ f ∧ f < 8 := by omega
        have yes : (∀ g : Int, 0 ≤ g → g < f + 1 → (so w 1 g P.toNat &&& s = 0 ∨ so w 0 g P.toNat &&& s ≠ 0)) → ∃ r, F_X6_isSiphon_b36 P F w (F_X6_isSiphon_b4 P F w fu) (s : Int) f = some r ∧ isB r (siS P F w s) := fun h => ih 1 (f + 1) (by omega) (by omega) (by omega) (Or.inl ⟨rfl, h⟩)
        have no : ¬ (∀ g : Int, 0 ≤ g → g < f + 1 → (so w 1 g P.toNat &&& s = 0 ∨ so w 0 g P.toNat &&& s ≠ 0)) → ∃ r, F_X6_isSiphon_b40 P F w (F_X6_isSiphon_b4 P F w fu) (s : Int) f = some r ∧ isB r (siS P F w s) := fun h => ih 0 (f + 1) (by omega) (by omega) (by omega) (Or.inr ⟨rfl, h⟩)
        refine el_e c ?_
        rcases h4 with ⟨rfl, h4⟩ | ⟨rfl, h4⟩
        · refine G_e (by omega) (el_e (by omega) ?_)
          have st : (so w 1 f P.toNat &&& s = 0 ∨ so w 0 f P.toNat &&& s ≠ 0) → ∀ g : Int, 0 ≤ g → g < f + 1 → (so w 1 g P.toNat &&& s = 0 ∨ so w 0 g P.toNat &&& s ≠ 0) := fun h g g1 g2 => by
            by_cases e : g = f
            · rw [e]; exact h
            · exact h4 g g1 (by omega)
          obtain ⟨r1, u1, u2⟩ := touches_ok (s := s) (k := 1) hP (by omega) hf hw hs.2
          refine Ob_e u1 (G_e (by have := isB_01 u2; omega) ?_)
          rcases u2 with ⟨rfl, u2⟩ | ⟨rfl, u2⟩
          · refine el_e (by omega) ?_
            obtain ⟨r0, v1, v2⟩ := touches_ok (s := s) (k := 0) hP (by omega) hf hw hs.2
            refine Ob_e v1 (G_e (by have := isB_01 v2; omega) ?_)
            rcases v2 with ⟨rfl, v2⟩ | ⟨rfl, v2⟩
            · exact el_e (by omega) (yes (st (Or.inr v2)))
            · exact if_e rfl (no (fun q => (q f h1 (by omega)).elim u2 v2))
          · exact if_e rfl (yes (st (Or.inl (Decidable.byContradiction u2))))
        · exact G_e (by omega) (if_e rfl (no (fun q => h4 (fun g g1 g2 => q g g1 (by omega)))))
  unfold F_X6_isSiphon
  exact key NN 1 0 (by omega) hF.1 (NN_gt (by omega)) (Or.inl ⟨rfl, fun g g1 g2 => absurd g2 (by omega)⟩)
theorem holdsKept_ok {l : List Nat} {least : Nat → Int} {s : Nat} (hl : l.length ≤ 20) (ha : Arr idI least l) (hb : ∀ k, k ∈ l → k < 2147483648) (hs : s < 2147483648) : ∃ r, F_X4_holdsKept (s : Int) (l.length : Int) least = some r ∧ isB r (∃ k, k ∈ l ∧ sub k s) := by
  have key : ∀ (fu i : Nat), i ≤ l.length → l.length - i < fu → (∀ (j : Nat) (h : j < l.length), j < i → ¬ sub l[j] s) → ∃ r, F_X4_holdsKept_b2 (l.length : Int) least fu (s : Int) (i : Int) = some r ∧ isB r (∃ k, k ∈ l ∧ sub k s) := by
    intro fu
    induction fu with
    | zero => intro i h1 h2; exact absurd h2 (by omega)
    | succ fu ih =>
      intro i h1 h2 h3
      show ∃ r, F_X4_holdsKept_b2_body (l.length : Int) least (F_X4_holdsKept_b2 (l.length : Int) least fu) (s : Int) (i : Int) = some r ∧ _
      unfold F_X4_holdsKept_b2_body
      refine G_e (by omega) ?_
      by_cases c : (l.length : Int) ≤ i
      · refine if_e c (G_e (Or.inl rfl) (so_e (Or.inr ⟨rfl, fun ⟨k, k1, k2⟩ => ?_⟩)))
        obtain ⟨j, hj, rfl⟩ := List.getElem_of_mem k1
        exact h3 j hj (by omega) k2
      · have hi : i < l.length := by omega
        have hlt := hb l[i] (List.getElem_mem hi)
        have ha2 : l[i] &&& s ≤ l[i] := Nat.and_le_left
        refine el_e c (G_e (by omega) (Bd_e (G_e (by omega) (Bd_e ?_))))
        rw [Int.toNat_natCast, ha i hi]
        show ∃ r, Bd (iAnd ((l[i] : Nat) : Int) (s : Int)) _ = some r ∧ _
        rw [iAnd_n hlt]
        refine Bd_e (G_e ⟨by omega, by unfold idI; omega⟩ ?_)
        by_cases z : l[i] &&& s = l[i]
        · exact if_e (by unfold idI; omega) (G_e (Or.inr rfl) (so_e (Or.inl ⟨rfl, l[i], List.getElem_mem hi, z⟩)))
        · refine el_e (by unfold idI; omega) (Bd_e ?_)
          exact ih (i + 1) (by omega) (by omega) (fun j hj h => by
            by_cases e : j = i
            · subst e; exact z
            · exact h3 j hj (by omega))
  unfold F_X4_holdsKept
  exact key NN 0 (Nat.zero_le _) (by have := NN_gt (z := 21) (by omega); omega) (fun j _ h => absurd h (Nat.not_lt_zero j))
theorem findLeastSiphons_ok {P F c0 : Int} {w ta gi l0 : Nat → Int} (hP : 0 ≤ P ∧ P ≤ 6) (hF : 0 ≤ F ∧ F ≤ 8) (ht : ∀ f : Int, 0 ≤ f → f < F → ta f.toNat = ((so w 0 f P.toNat : Nat) : Int)) (hg : ∀ f : Int, 0 ≤ f → f < F → gi f.toNat = ((so w 1 f P.toNat : Nat) : Int)) :
    ∃ r, F_X4_findLeastSiphons P F ta gi c0 l0 = some r ∧ (r.1 = ((kSi P F w (2 ^ P.toNat)).length : Int) ∧ Arr idI r.2 (kSi P F w (2 ^ P.toNat))) := by
  have hp2 := p2_64 hP
  have key : ∀ (fu s : Nat) (least : Nat → Int), 1 ≤ s → s ≤ 2 ^ P.toNat → 2 ^ P.toNat - s < fu → Arr idI least (kSi P F w s) → ∃ r, F_X4_findLeastSiphons_b7 P F ta gi fu (s : Int) ((kSi P F w s).length : Int) least = some r ∧ (r.1 = ((kSi P F w (2 ^ P.toNat)).length : Int) ∧ Arr idI r.2 (kSi P F w (2 ^ P.toNat))) := by
    intro fu
    induction fu with
    | zero => intro s least h1 h2 h3; exact absurd h3 (by omega)
    | succ fu ih =>
      intro s least h1 h2 h3 h4
      show ∃ r, F_X4_findLeastSiphons_b7_body P F ta gi (F_X4_findLeastSiphons_b7 P F ta gi fu) (s : Int) ((kSi P F w s).length : Int) least = some r ∧ _
      have hl := kSi_len (P := P) (F := F) (w := w) (c := s) (by omega)
      unfold F_X4_findLeastSiphons_b7_body
      rw [iShl1_i hP]
      refine Bd_e (G_e (by omega) ?_)
      by_cases c : ((2 ^ P.toNat : Nat) : Int) ≤ s
      · refine if_e c (so_e ?_)
        rw [show s = 2 ^ P.toNat by omega] at h4 ⊢
        exact ⟨rfl, h4⟩
      · have skip : ¬ (siS P F w s ∧ ∀ k, k ∈ kp (siS P F w) sub s → ¬ sub k s) → ∃ r, F_X4_findLeastSiphons_b68 P F ta gi (F_X4_findLeastSiphons_b7 P F ta gi fu) (s : Int) ((kSi P F w s).length : Int) least = some r ∧ (r.1 = ((kSi P F w (2 ^ P.toNat)).length : Int) ∧ Arr idI r.2 (kSi P F w (2 ^ P.toNat))) := fun h => by
          have e : kSi P F w (s + 1) = kSi P F w s := kp_skip h
          have := ih (s + 1) least (by omega) (by omega) (by omega) (by rw [e]; exact h4)
          rw [e] at this
          exact this
        have hk2 : ∀ k, k ∈ kSi P F w s → k < 2147483648 := fun k hk => by have := (kp_mem _ k hk).1; omega
        refine el_e c (Bd_e (G_e (by omega) ?_))
        have full : (∀ k, k ∈ kp (siS P F w) sub s → ¬ sub k s) → siS P F w s → (kSi P F w s).length < 20 := fun h1 h2 => by
          have e : kSi P F w (s + 1) = kSi P F w s ++ [s] := kp_add h2 h1
          have := kSi_len (P := P) (F := F) (w := w) (c := s + 1) (by omega)
          rw [e, List.length_append, List.length_singleton] at this
          omega
        by_cases c20 : ((20 : Nat) : Int) ≤ ((kSi P F w s).length : Int)
        · exact if_e c20 (skip (fun q => by have := full q.2 q.1; omega))
        · refine el_e c20 ?_
          obtain ⟨r4, g1, g2⟩ := X_isSiphon_ok (w := w) (ta := ta) (gi := gi) hP hF ⟨h1, by omega⟩ ht hg
          refine Ob_e g1 (G_e (by have := isB_01 g2; omega) ?_)
          rcases g2 with ⟨rfl, g2⟩ | ⟨rfl, g2⟩
          · refine el_e (by omega) ?_
            obtain ⟨r5, k1, k2⟩ := holdsKept_ok (s := s) hl h4 hk2 (by omega)
            refine Ob_e k1 (G_e (by have := isB_01 k2; omega) ?_)
            rcases k2 with ⟨rfl, k2⟩ | ⟨rfl, k2⟩
            · refine el_e (by omega) (skip (fun q => ?_))
              obtain ⟨k, m1, m2⟩ := k2
              exact q.2 k m1 m2
            · refine if_e rfl (G_e (by omega) (Bd_e (Bd_e ?_)))
              have e : kSi P F w (s + 1) = kSi P F w s ++ [s] := kp_add g2 (fun k m1 m2 => k2 ⟨k, m1, m2⟩)
              have hA : Arr idI (uI least (kSi P F w s).length (s : Int)) (kSi P F w (s + 1)) := by
                rw [e]; exact Arr_add h4 rfl rfl
              have := ih (s + 1) _ (by omega) (by omega) (by omega) hA
              rw [e, List.length_append, List.length_singleton] at this
              exact this
          · exact if_e rfl (skip (fun q => g2 q.1))
  unfold F_X4_findLeastSiphons
  have e1 : kSi P F w 1 = [] := kp_skip (c := 0) (fun q => absurd q.1.1 (by omega))
  have := key NN 1 l0 (Nat.le_refl _) hp2.1 (by have := NN_gt (z := 100) (by omega); omega) (by rw [e1]; exact Arr_nil)
  rw [e1] at this
  exact this
theorem M_keep_ok {P F : Int} {w : Nat → Int} {l : List Nat} {s : Nat} {found : Nat → Int} {S : Prop} (ag4 : Int → Int → (Nat → Int) → Option (Int × (Nat → Int))) (hl : l.length ≤ 20) (ha : Arr idI found l) (hb : ∀ k, k ∈ l → k < 2147483648) (hs : s < 2147483648) :
    ∀ (fu i : Nat) (d : Int), i ≤ l.length → l.length - i < fu → isB d (S ∧ ∀ (j : Nat) (h : j < l.length), j < i → ¬ sub l[j] s) → ∃ e, isB e (S ∧ ∀ k, k ∈ l → ¬ sub k s) ∧ F_X6_findSiphons_b23 P F w ag4 fu (l.length : Int) (s : Int) d (i : Int) found = if e = 1 then ag4 ((l.length : Int) + 1) ((s : Int) + 1) (uI found l.length (s : Int)) else ag4 (l.length : Int) ((s : Int) + 1) found := by
  intro fu
  induction fu with
  | zero => intro i d h1 h2; exact absurd h2 (by omega)
  | succ fu ih =>
    intro i d h1 h2 h3
    show ∃ e, _ ∧ F_X6_findSiphons_b23_body P F w ag4 (F_X6_findSiphons_b23 P F w ag4 fu) (l.length : Int) (s : Int) d (i : Int) found = _
    unfold F_X6_findSiphons_b23_body
    by_cases c : (l.length : Int) ≤ i
    · have h4 : isB d (S ∧ ∀ k, k ∈ l → ¬ sub k s) := isB_iff h3 ⟨fun q => ⟨q.1, fun k hk => by
        obtain ⟨j, hj, rfl⟩ := List.getElem_of_mem hk
        exact q.2 j hj (by omega)⟩, fun q => ⟨q.1, fun j hj _ => q.2 _ (List.getElem_mem hj)⟩⟩
      refine ⟨d, h4, G_i (by omega) (if_i c (G_i (by have := isB_01 h3; omega) ?_))⟩
      rcases isB_01 h3 with z | z
      · rw [if_neg (by omega : ¬ d = 1)]
        exact if_i z rfl
      · rw [if_pos z]
        exact el_i (by omega) (G_i (by omega) (Bd_i (Bd_i rfl)))
    · have hi : i < l.length := by omega
      have hlt := hb l[i] (List.getElem_mem hi)
      have no : ¬ (S ∧ ∀ (j : Nat) (h : j < l.length), j < i + 1 → ¬ sub l[j] s) → ∃ e, isB e (S ∧ ∀ k, k ∈ l → ¬ sub k s) ∧ F_X6_findSiphons_b51 P F w ag4 (F_X6_findSiphons_b23 P F w ag4 fu) (l.length : Int) (s : Int) (i : Int) found = if e = 1 then ag4 ((l.length : Int) + 1) ((s : Int) + 1) (uI found l.length (s : Int)) else ag4 (l.length : Int) ((s : Int) + 1) found := fun h => ih (i + 1) 0 (by omega) (by omega) (Or.inr ⟨rfl, h⟩)
      rcases h3 with ⟨rfl, h3⟩ | ⟨rfl, h3⟩
      · by_cases z : sub l[i] s
        · obtain ⟨e, e1, e2⟩ := no (fun q => q.2 i hi (by omega) z)
          refine ⟨e, e1, G_i (by omega) (el_i c (G_i (by omega) (el_i (by omega) (G_i (by omega) (Bd_i ?_)))))⟩
          rw [Int.toNat_natCast, ha i hi]
          show Bd (iAnd ((l[i] : Nat) : Int) (iXor (s : Int) (-1))) _ = _
          have hz : dif l[i] s = 0 := Decidable.byContradiction fun q => (dif_ne hlt).mp q z
          rw [iNot_n hlt, hz]
          exact Bd_i (G_i (by omega) (if_i rfl e2))
        · obtain ⟨e, e1, e2⟩ := ih (i + 1) 1 (by omega) (by omega) (Or.inl ⟨rfl, h3.1, fun j hj q => by
            by_cases t : j = i
            · subst t; exact z
            · exact h3.2 j hj (by omega)⟩)
          refine ⟨e, e1, G_i (by omega) (el_i c (G_i (by omega) (el_i (by omega) (G_i (by omega) (Bd_i ?_)))))⟩
          rw [Int.toNat_natCast, ha i hi]
          show Bd (iAnd ((l[i] : Nat) : Int) (iXor (s : Int) (-1))) _ = _
          have hz := (dif_ne hlt).mpr z
          have hle := dif_le (a := l[i]) (b := s)
          rw [iNot_n hlt]
          exact Bd_i (G_i (by omega) (el_i (by omega) e2))
      · obtain ⟨e, e1, e2⟩ := no (fun q => h3 ⟨q.1, fun j hj t => q.2 j hj (by omega)⟩)
        exact ⟨e, e1, G_i (by omega) (el_i c (G_i (by omega) (if_i rfl e2)))⟩
theorem findSiphons_ok {P F : Int} {w f0 : Nat → Int} (hw : wOk w) (hP : 0 ≤ P ∧ P ≤ 6) (hF : 0 ≤ F ∧ F ≤ 8) :
    ∃ r, F_X6_findSiphons P F w f0 = some r ∧ (r.1 = ((kSi P F w (2 ^ P.toNat)).length : Int) ∧ Arr idI r.2 (kSi P F w (2 ^ P.toNat))) := by
  have hp2 := p2_64 hP
  have key : ∀ (fu s : Nat) (found : Nat → Int), 1 ≤ s → s ≤ 2 ^ P.toNat → 2 ^ P.toNat - s < fu → Arr idI found (kSi P F w s) → ∃ r, F_X6_findSiphons_b4 P F w fu ((kSi P F w s).length : Int) (s : Int) found = some r ∧ (r.1 = ((kSi P F w (2 ^ P.toNat)).length : Int) ∧ Arr idI r.2 (kSi P F w (2 ^ P.toNat))) := by
    intro fu
    induction fu with
    | zero => intro s found h1 h2 h3; exact absurd h3 (by omega)
    | succ fu ih =>
      intro s found h1 h2 h3 h4
      show ∃ r, F_X6_findSiphons_b4_body P F w (F_X6_findSiphons_b4 P F w fu) ((kSi P F w s).length : Int) (s : Int) found = some r ∧ _
      have hl := kSi_len (P := P) (F := F) (w := w) (c := s) (by omega)
      have hk2 : ∀ k, k ∈ kSi P F w s → k < 2147483648 := fun k hk => by have := (kp_mem _ k hk).1; omega
      unfold F_X6_findSiphons_b4_body
      rw [iShl1_i hP]
      refine Bd_e (G_e (by omega) ?_)
      by_cases c : ((2 ^ P.toNat : Nat) : Int) ≤ s
      · refine if_e c (so_e ?_)
        rw [show s = 2 ^ P.toNat by omega] at h4 ⊢
        exact ⟨rfl, h4⟩
      · refine el_e c ?_
        obtain ⟨r, g1, g2⟩ := M_isSiphon_ok (s := s) hw hP hF ⟨h1, by omega⟩
        refine Ob_e g1 ?_
        obtain ⟨e, e1, e2⟩ := M_keep_ok (P := P) (F := F) (w := w) (S := siS P F w s) (F_X6_findSiphons_b4 P F w fu) hl h4 hk2 (by omega : s < 2147483648) NN 0 r (Nat.zero_le _) (by have := NN_gt (z := 100) (by omega); omega) (isB_iff g2 ⟨fun q => ⟨q, fun j _ h => absurd h (Nat.not_lt_zero j)⟩, fun q => q.1⟩)
        show ∃ r', F_X6_findSiphons_b23 P F w (F_X6_findSiphons_b4 P F w fu) NN ((kSi P F w s).length : Int) (s : Int) r ((0 : Nat) : Int) found = some r' ∧ _
        rw [e2]
        rcases e1 with ⟨rfl, e1⟩ | ⟨rfl, e1⟩
        · rw [if_pos rfl]
          have e : kSi P F w (s + 1) = kSi P F w s ++ [s] := kp_add e1.1 e1.2
          have hA : Arr idI (uI found (kSi P F w s).length (s : Int)) (kSi P F w (s + 1)) := by
            rw [e]; exact Arr_add h4 rfl rfl
          have := ih (s + 1) _ (by omega) (by omega) (by omega) hA
          rw [e, List.length_append, List.length_singleton] at this
          exact this
        · rw [if_neg (by omega)]
          have e : kSi P F w (s + 1) = kSi P F w s := kp_skip e1
          have := ih (s + 1) found (by omega) (by omega) (by omega) (by rw [e]; exact h4)
          rw [e] at this
          exact this
  unfold F_X6_findSiphons
  have e1 : kSi P F w 1 = [] := kp_skip (c := 0) (fun q => absurd q.1.1 (by omega))
  have := key NN 1 f0 (Nat.le_refl _) hp2.1 (by have := NN_gt (z := 100) (by omega); omega) (by rw [e1]; exact Arr_nil)
  rw [e1] at this
  exact this
