/-! logs, firings told, sets -/
theorem Bd_of {α β : Type} {x : α} {k : α → Option β} {r : β} (h : Bd x k = some r) : k x = some r := h
theorem goes_b37 {P L : Int} {tok w lg : Nat → Int} {ag11 : Int → Int → (Nat → Int) → Option (Int × (Int) × (Nat → Int))} {r : Int × (Int) × (Nat → Int)} : ∀ (fu : Nat) (i p th : Int) (a : Nat → Int), F_X6_goes_b37 P L tok w lg ag11 fu i p th a = some r → ∃ a', ag11 (i + 1) th a' = some r
  | 0, _, _, _, _, h => by cases h
  | fu + 1, i, p, th, a, h => by
    replace h : F_X6_goes_b37_body P L tok w lg ag11 (F_X6_goes_b37 P L tok w lg ag11 fu) i p th a = some r := h
    unfold F_X6_goes_b37_body at h
    replace h := (G_of h).2
    by_cases c : P ≤ p
    · exact ⟨a, Bd_of (if_t h c)⟩
    · replace h := (G_of (if_f h c)).2
      replace h := Bd_of h
      replace h := (G_of h).2
      replace h := Bd_of h
      obtain ⟨r4, -, h⟩ := Ob_of h
      replace h := (G_of h).2
      replace h := Bd_of h
      replace h := Bd_of h
      exact goes_b37 fu i _ th _ h
theorem goes_b11 {P L : Int} {tok w lg : Nat → Int} {r : Int × (Int) × (Nat → Int)} : ∀ (fu : Nat) (i th : Int) (a : Nat → Int), 0 ≤ i → i ≤ L → F_X6_goes_b11 P L tok w lg fu i th a = some r → 0 ≤ r.1 ∧ r.1 ≤ L
  | 0, _, _, _, _, _, h => by cases h
  | fu + 1, i, th, a, h1, h2, h => by
    replace h : F_X6_goes_b11_body P L tok w lg (F_X6_goes_b11 P L tok w lg fu) i th a = some r := h
    unfold F_X6_goes_b11_body at h
    replace h := (G_of h).2
    by_cases c : L ≤ i
    · replace h := if_t h c
      cases h
      exact ⟨by dsimp only; omega, Int.le_refl _⟩
    · replace h := (G_of (if_f h c)).2
      replace h := Bd_of h
      obtain ⟨r9, -, h⟩ := Ob_of h
      replace h := (G_of h).2
      by_cases d : r9 = 0
      · replace h := if_t h d
        cases h
        exact ⟨h1, h2⟩
      · obtain ⟨a', h'⟩ := goes_b37 NN i 0 th a (if_f h d)
        exact goes_b11 fu (i + 1) th a' (by omega) (by omega) h'
theorem v_goes {P F D L : Int} {tok w lg : Nat → Int} {r : Int × AS} (hL : 0 ≤ L) (h : dx_goes (P, F, D, L, tok, w, lg) = some r) : 0 ≤ r.1 ∧ r.1 ≤ L := by
  obtain ⟨rm, h1, h⟩ := Ob_of h
  cases h
  obtain ⟨r12, -, h1⟩ := Ob_of (show Ob (F_X6_layNow P tok zf) (fun r12 => F_X6_goes_b11 P L tok w lg NN 0 0 r12) = some rm from h1)
  exact goes_b11 NN 0 0 r12 (Int.le_refl _) hL h1
theorem v_blank {P F D L : Int} {tok w lg : Nat → Int} : dx_blank (P, F, D, L, tok, w, lg) = some (L, (P, F, D, 0, tok, w, lg)) := rfl
theorem isFiring_n {x F : Int} (hx : inR x) (hF : 0 ≤ F ∧ F ≤ 8) (h : ¬ (0 ≤ x ∧ x < F)) : F_X6_isFiring x F = some 0 := by
  obtain ⟨r, h1, h2⟩ := isFiring_ok (x := x) hx hF
  rcases h2 with ⟨-, h2⟩ | ⟨rfl, -⟩
  · exact absurd h2 h
  · exact h1
theorem v_log {P F D L x : Int} {tok w lg : Nat → Int} (hF : 0 ≤ F ∧ F ≤ 8) (hL : 0 ≤ L ∧ L ≤ 10) (hx : inR x) : ax_log x (P, F, D, L, tok, w, lg) = some (-99999999, (P, F, D, L, tok, w, lg)) ∨ (L < 10 ∧ ∃ lg', ax_log x (P, F, D, L, tok, w, lg) = some (L + 1, (P, F, D, L + 1, tok, w, lg'))) := by
  unfold ax_log F_X6_log F_X6_log_b29
  by_cases c : 0 ≤ x ∧ x < F
  · by_cases d : L = 10
    · exact Or.inl (Ob_i (y := (0, 2, L, lg)) (Ob_i (isFiring_c hF c) (G_i (by omega) (el_i (by omega) (G_i (by dsimp only; omega) (if_i d (Ob_i (goesWell_n (by omega) (by omega)) (G_i (by omega) (if_i rfl rfl)))))))) rfl)
    · exact Or.inr ⟨by omega, _, Ob_i (y := (L + 1, 0, L + 1, _)) (Ob_i (isFiring_c hF c) (G_i (by omega) (el_i (by omega) (G_i (by dsimp only; omega) (el_i d (Ob_i goesWell_0 (G_i (by omega) (el_i (by omega) (G_i (by dsimp only; omega) (Bd_i (Bd_i rfl))))))))))) rfl⟩
  · exact Or.inl (Ob_i (y := (0, 1, L, lg)) (Ob_i (isFiring_n hx hF c) (G_i (by omega) (if_i rfl (Ob_i (goesWell_n (by omega) (by omega)) (G_i (by omega) (if_i rfl rfl)))))) rfl)
theorem v_firing {P F D L : Int} {tok w lg : Nat → Int} (hF : 0 ≤ F ∧ F ≤ 8) : (F = 8 ∧ ax_firing (P, F, D, L, tok, w, lg) = some (-99999999, (P, F, D, L, tok, w, lg))) ∨ (F < 8 ∧ dx_firing (P, F, D, L, tok, w, lg) = some (F, (P, F + 1, D, L, tok, w, lg)) ∧ ax_firing (P, F, D, L, tok, w, lg) = some (F, (P, F + 1, D, L, tok, w, lg))) := by
  by_cases d : F = 8
  · refine Or.inl ⟨d, ?_⟩
    unfold ax_firing F_X6_firing F_X6_firing_b15
    exact Ob_i (y := (0, 1, F)) (G_i (by dsimp only; omega) (if_i d (Ob_i (goesWell_n (by omega) (by omega)) (G_i (by omega) (if_i rfl rfl))))) rfl
  · have e : F + 1 - 1 = F := by omega
    have h : dx_firing (P, F, D, L, tok, w, lg) = some (F, (P, F + 1, D, L, tok, w, lg)) := by
      unfold dx_firing F_X6_firing F_X6_firing_b15
      refine Ob_i (y := (F + 1 - 1, 0, F + 1)) (G_i (by dsimp only; omega) (el_i d (Ob_i goesWell_0 (G_i (by omega) (el_i (by omega) (Bd_i rfl)))))) (G_i rfl ?_)
      rw [e]
    exact Or.inr ⟨by omega, h, dx_firing_ax h⟩
theorem v_trap {P F D L : Int} {tok w lg : Nat → Int} {s : Nat} (hw : wOk w) (hP : 0 ≤ P ∧ P ≤ 6) (hF : 0 ≤ F ∧ F ≤ 8) (hs : s < 2 ^ P.toNat) : dx_trap (s : Int) (P, F, D, L, tok, w, lg) = some (((itT P F w 6 s : Nat) : Int), (P, F, D, L, tok, w, lg)) := by
  have h2 := p2_64 hP
  have e := iShl1_i hP
  unfold dx_trap F_X6_trap F_X6_trap_b22
  rw [e]
  exact Ob_i (y := (((itT P F w 6 s : Nat) : Int), 0)) (Ob_i (in_c (by omega) (by omega) (by omega) (by omega)) (G_i (by omega) (el_i (by omega) (Ob_i goesWell_0 (G_i (by omega) (el_i (by omega) (Ob_i (trapIn_ok hw hP hF (by omega)) rfl))))))) (G_i rfl rfl)
/-- a pass more, at the end -/
theorem itT_end {P F : Int} {w : Nat → Int} : ∀ (k s : Nat), itT P F w (k + 1) s = tfT P w (itT P F w k s) F.toNat
  | 0, _ => rfl
  | k + 1, s => by
    rw [itT, itT_end k]
    rfl
/-- the greatest trap in a trap is that trap -/
theorem itT_idem {P F : Int} {w : Nat → Int} {s : Nat} (hs : s < 64) : itT P F w 6 (itT P F w 6 s) = itT P F w 6 s := by
  have h6 : pcT s ≤ 6 := pcT_le 6 (by omega) s hs
  have h := itT_fix (P := P) (F := F) (w := w) 6 s hs h6 1
  rw [itT_end] at h
  exact itT_const h 6
theorem v_siphons {P F D L : Int} {tok w lg : Nat → Int} (hw : wOk w) (hP : 0 ≤ P ∧ P ≤ 6) (hF : 0 ≤ F ∧ F ≤ 8) : dx_siphons (P, F, D, L, tok, w, lg) = some (((kSi P F w (2 ^ P.toNat)).length : Int), (P, F, D, L, tok, w, lg)) := by
  obtain ⟨⟨n, f1⟩, k1, k2, k3⟩ := findSiphons_ok (P := P) (F := F) (f0 := zf) hw hP hF
  dsimp only at k2
  subst k2
  unfold dx_siphons ax_siphons F_X6_siphons
  exact Ob_i (Ob_i k1 rfl) rfl
theorem v_siphon {P F D L x : Int} {tok w lg : Nat → Int} (hw : wOk w) (hP : 0 ≤ P ∧ P ≤ 6) (hF : 0 ≤ F ∧ F ≤ 8) (hx : 0 ≤ x ∧ x < ((kSi P F w (2 ^ P.toNat)).length : Int)) : dx_siphon x (P, F, D, L, tok, w, lg) = some ((((kSi P F w (2 ^ P.toNat)).getD x.toNat 0 : Nat) : Int), (P, F, D, L, tok, w, lg)) := by
  obtain ⟨⟨n, f1⟩, k1, k2, k3⟩ := findSiphons_ok (P := P) (F := F) (f0 := zf) hw hP hF
  have hl := kSi_len (P := P) (F := F) (w := w) (c := 2 ^ P.toNat) (p2_64 hP).2
  dsimp only at k2 k3
  subst k2
  have hi : x.toNat < (kSi P F w (2 ^ P.toNat)).length := by omega
  have e : f1 x.toNat = (((kSi P F w (2 ^ P.toNat)).getD x.toNat 0 : Nat) : Int) := by
    rw [k3 x.toNat hi, List.getD_eq_getElem?_getD, List.getElem?_eq_getElem hi]
    rfl
  unfold dx_siphon F_X6_siphon F_X6_siphon_b20
  refine Ob_i (y := (f1 x.toNat, 0, f1)) (Ob_i k1 (Ob_i (in_c (by omega) (by omega) (by dsimp only; omega) (by dsimp only; omega)) (G_i (by omega) (el_i (by omega) (Ob_i goesWell_0 (G_i (by omega) (el_i (by omega) (G_i (by omega) (Bd_i rfl))))))))) (G_i rfl ?_)
  rw [e]
theorem kSi_at {P F : Int} {w : Nat → Int} {i : Nat} (hi : i < (kSi P F w (2 ^ P.toNat)).length) : 1 ≤ (kSi P F w (2 ^ P.toNat)).getD i 0 ∧ (kSi P F w (2 ^ P.toNat)).getD i 0 < 2 ^ P.toNat := by
  rw [List.getD_eq_getElem?_getD, List.getElem?_eq_getElem hi]
  have h := kp_mem (S := siS P F w) (bel := sub) _ _ (List.getElem_mem hi)
  exact ⟨h.2.1, h.1⟩
theorem kSi_up {P F : Int} {w : Nat → Int} {i j : Nat} (hij : i < j) (hj : j < (kSi P F w (2 ^ P.toNat)).length) : (kSi P F w (2 ^ P.toNat)).getD i 0 < (kSi P F w (2 ^ P.toNat)).getD j 0 := by
  rw [List.getD_eq_getElem?_getD, List.getD_eq_getElem?_getD, List.getElem?_eq_getElem hj, List.getElem?_eq_getElem (Nat.lt_trans hij hj)]
  exact (List.pairwise_iff_getElem.mp (kp_pw (S := siS P F w) (bel := sub) (2 ^ P.toNat)) i j (Nat.lt_trans hij hj) hj hij).1
