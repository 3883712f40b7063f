/-! the calls siphons, siphon, trap, isPromising -/
theorem isB_eq {a b : Int} {C : Prop} (h1 : isB a C) (h2 : isB b C) : a = b := by
  rcases h1 with ⟨a1, a2⟩ | ⟨a1, a2⟩ <;> rcases h2 with ⟨b1, b2⟩ | ⟨b1, b2⟩
  · omega
  · exact absurd a2 b2
  · exact absurd b2 a2
  · omega
def SR (P F : Int) (w : Nat → Int) (cnt : Int) (ta lo gi le : Nat → Int) : Prop :=
  cnt = ((kSi P F w (2 ^ P.toNat)).length : Int) ∧ Arr idI le (kSi P F w (2 ^ P.toNat)) ∧ ∀ f : Int, 0 ≤ f → f < F → ta f.toNat = ((so w 0 f P.toNat : Nat) : Int) ∧ lo f.toNat = ((loS P w f : Nat) : Int) ∧ gi f.toNat = ((so w 1 f P.toNat : Nat) : Int)
/-- the class's kept sets: of the shape that they name -/
def RSe (P F : Int) (w : Nat → Int) (sh ss sf cnt : Int) (ta lo gi le : Nat → Int) : Prop := (-1 ≤ ss ∧ ss ≤ sh) ∧ (ss = sh → sf = F ∧ SR P F w cnt ta lo gi le)
theorem sets_refresh_ok {P F sh ss sf cnt : Int} {w ta lo gi le : Nat → Int} (hw : wOk w) (hP : 0 ≤ P ∧ P ≤ 6) (hF : 0 ≤ F ∧ F ≤ 8) (hsh : 0 ≤ sh ∧ sh < 1000000) (hR : RSe P F w sh ss sf cnt ta lo gi le) :
    ∃ r, F_X4_refresh P F sh w sf cnt ss ta lo gi le = some r ∧ (r.1 = F ∧ r.2.2.1 = sh ∧ SR P F w r.2.1 r.2.2.2.1 r.2.2.2.2.1 r.2.2.2.2.2.1 r.2.2.2.2.2.2) := by
  have key : ∀ (fu : Nat) (f : Int) (ta lo gi : Nat → Int), 0 ≤ f → f ≤ F → F - f < fu → (∀ g : Int, 0 ≤ g → g < f → ta g.toNat = ((so w 0 g P.toNat : Nat) : Int) ∧ lo g.toNat = ((loS P w g : Nat) : Int) ∧ gi g.toNat = ((so w 1 g P.toNat : Nat) : Int)) → ∃ r, F_X4_refresh_b44 P F sh w fu f F cnt sh ta lo gi le = some r ∧ (r.1 = F ∧ r.2.2.1 = sh ∧ SR P F w r.2.1 r.2.2.2.1 r.2.2.2.2.1 r.2.2.2.2.2.1 r.2.2.2.2.2.2) := by
    intro fu
    induction fu with
    | zero => intro f ta lo gi h1 h2 h3; exact absurd h3 (by omega)
    | succ fu ih =>
      intro f ta lo gi h1 h2 h3 h4
      show ∃ r, F_X4_refresh_b44_body P F sh w (F_X4_refresh_b44 P F sh w fu) f F cnt sh ta lo gi le = some r ∧ _
      unfold F_X4_refresh_b44_body
      refine G_e (by omega) ?_
      by_cases c : F ≤ f
      · obtain ⟨r, g1, g2, g3⟩ := findLeastSiphons_ok (P := P) (F := F) (c0 := cnt) (w := w) (ta := ta) (gi := gi) (l0 := le) hP hF (fun g q1 q2 => (h4 g q1 (by omega)).1) (fun g q1 q2 => (h4 g q1 (by omega)).2.2)
        exact if_e c (Ob_e g1 (so_e ⟨rfl, rfl, g2, g3, fun g q1 q2 => h4 g q1 (by omega)⟩))
      · have hf : 0 ≤ f ∧ f < 8 := by omega
        have l0 := so_64 (w := w) (k := 0) (f := f) hP
        have l4 := so_64 (w := w) (k := 4) (f := f) hP
        refine el_e c (Ob_e (placesWith_ok hP (by omega) hf hw) (G_e (by omega) (Bd_e (G_e (by omega) (Bd_e ?_)))))
        rw [uI_same]
        refine Ob_e (placesWith_ok hP (by omega) hf hw) (Bd_e ?_)
        rw [iOr_n (by omega) (by omega)]
        refine G_e (by omega) (Bd_e (Ob_e (placesWith_ok hP (by omega) hf hw) (G_e (by omega) (Bd_e (Bd_e (ih (f + 1) _ _ _ (by omega) (by omega) (by omega) (fun g q1 q2 => ?_)))))))
        by_cases e : g = f
        · subst e
          rw [uI_same, uI_same, uI_same]
          exact ⟨rfl, rfl, rfl⟩
        · rw [uI_ne _ _ (by omega), uI_ne _ _ (by omega), uI_ne _ _ (by omega)]
          exact h4 g q1 (by omega)
  unfold F_X4_refresh
  refine G_e ⟨by have := hR.1; omega, by omega⟩ ?_
  by_cases c : ss = sh
  · exact if_e c (so_e ⟨(hR.2 c).1, c, (hR.2 c).2⟩)
  · refine el_e c (Ob_e (y := F) ?_ (key NN 0 ta lo gi (by omega) hF.1 (NN_gt (by omega)) (fun g q1 q2 => absurd q2 (by omega))))
    unfold F_J9_min_7cf53
    exact G_i (by omega) (el_i (by omega) rfl)
theorem op_siphons {P F sh ss sf cnt th : Int} {w ta lo gi le fd : Nat → Int} (hw : wOk w) (hP : 0 ≤ P ∧ P ≤ 6) (hF : 0 ≤ F ∧ F ≤ 8) (hsh : 0 ≤ sh ∧ sh < 1000000) (hR : RSe P F w sh ss sf cnt ta lo gi le) :
    ∃ rx rm, F_X5_siphons P F sh w sf cnt ss ta lo gi le = some rx ∧ F_X6_siphons P F w th fd = some rm ∧ RSe P F w sh rx.2.2.2.1 rx.2.1 rx.2.2.1 rx.2.2.2.2.1 rx.2.2.2.2.2.1 rx.2.2.2.2.2.2.1 rx.2.2.2.2.2.2.2 ∧ rx.1 = rm.1 ∧ inR rx.1 := by
  obtain ⟨r, g1, g0, g2, g3⟩ := sets_refresh_ok hw hP hF hsh hR
  obtain ⟨q, k1, k2, k3⟩ := findSiphons_ok (P := P) (F := F) (f0 := fd) hw hP hF
  have hl := kSi_len (P := P) (F := F) (w := w) (c := 2 ^ P.toNat) (p2_64 hP).2
  have h9 := g3.1
  exact ⟨_, _, Ob_i g1 rfl, Ob_i k1 rfl, ⟨by dsimp only; omega, fun _ => ⟨g0, g3⟩⟩, by dsimp only; omega, by dsimp only; omega⟩
theorem kSi_get {P F x : Int} {w a : Nat → Int} (hP : 0 ≤ P ∧ P ≤ 6) (h : Arr idI a (kSi P F w (2 ^ P.toNat))) (hx : 0 ≤ x ∧ x < ((kSi P F w (2 ^ P.toNat)).length : Int)) : ∃ s : Nat, s < 2 ^ P.toNat ∧ a x.toNat = (s : Int) ∧ ∀ b, Arr idI b (kSi P F w (2 ^ P.toNat)) → b x.toNat = (s : Int) := by
  have hi : x.toNat < (kSi P F w (2 ^ P.toNat)).length := by omega
  exact ⟨_, (kp_mem _ _ (List.getElem_mem hi)).1, h _ hi, fun b hb => hb _ hi⟩
theorem leastSiphon_ok {x cnt : Int} {le : Nat → Int} (hx : 0 ≤ x ∧ x < cnt) (hc : cnt ≤ 20) : F_X4_leastSiphon x cnt le = some (le x.toNat) := by
  unfold F_X4_leastSiphon
  exact G_i (by omega) (el_i (by omega) (G_i (by omega) (el_i (by omega) (G_i (by omega) (Bd_i rfl)))))
theorem op_siphon {P F sh ss sf cnt th x : Int} {w ta lo gi le fd : Nat → Int} (hw : wOk w) (hP : 0 ≤ P ∧ P ≤ 6) (hF : 0 ≤ F ∧ F ≤ 8) (hsh : 0 ≤ sh ∧ sh < 1000000) (hx : inR x) (hR : RSe P F w sh ss sf cnt ta lo gi le) :
    ∃ rx rm, F_X5_siphon x P F sh w sf cnt ss ta lo gi le = some rx ∧ F_X6_siphon x P F w th fd = some rm ∧ RSe P F w sh rx.2.2.2.2.1 rx.2.2.1 rx.2.2.2.1 rx.2.2.2.2.2.1 rx.2.2.2.2.2.2.1 rx.2.2.2.2.2.2.2.1 rx.2.2.2.2.2.2.2.2 ∧ ((rx.1 = 0 ∧ rm.2.1 = 0 ∧ rx.2.1 = rm.1 ∧ inR rx.2.1) ∨ (rx.1 = 3 ∧ rm.2.1 = 1)) := by
  obtain ⟨⟨f9, c1, s1, t1, o1, i1, e1⟩, g1, g0, g2, g3⟩ := sets_refresh_ok hw hP hF hsh hR
  obtain ⟨⟨n, f1⟩, k1, k2, k3⟩ := findSiphons_ok (P := P) (F := F) (f0 := fd) hw hP hF
  have hl := kSi_len (P := P) (F := F) (w := w) (c := 2 ^ P.toNat) (p2_64 hP).2
  have h9 := g3.1
  dsimp only at g0 g2 g3 k2 k3 h9
  subst f9
  have hRS : RSe P F w sh s1 F c1 t1 o1 i1 e1 := ⟨by omega, fun _ => ⟨rfl, g3⟩⟩
  obtain ⟨ri, m1, m2⟩ := in_ok (x := x) (a := 0) (b := n - 1) hx (by omega) (by omega)
  by_cases c : 0 ≤ x ∧ x < n
  · obtain ⟨s, q1, q2, q3⟩ := kSi_get (x := x) hP g3.2.1 (by omega)
    have h64 := (p2_64 hP).2
    have hri : ri = 1 := by
      rcases m2 with q | q
      · exact q.1
      · exact absurd (by omega) q.2
    refine ⟨(0, (s : Int), F, c1, s1, t1, o1, i1, e1), ((s : Int), 0, f1), ?_, ?_, hRS, Or.inl ⟨rfl, rfl, rfl, by dsimp only; omega⟩⟩
    · unfold F_X5_siphon
      refine Ob_i g1 (G_i hx (el_i (by omega) (G_i (by dsimp only; omega) (if_i (by dsimp only; omega) (Ob_i (leastSiphon_ok (by dsimp only; omega) (by dsimp only; omega)) ?_)))))
      dsimp only
      rw [q2]
    · unfold F_X6_siphon F_X6_siphon_b20
      refine Ob_i k1 (Ob_i m1 (G_i (by omega) (el_i (by omega) (Ob_i goesWell_0 (G_i (by omega) (el_i (by omega) (G_i (by omega) (Bd_i ?_))))))))
      dsimp only
      rw [q3 f1 k3]
  · have hri : ri = 0 := by
      rcases m2 with q | q
      · exact absurd (by omega) c
      · exact q.1
    refine ⟨(3, 0, F, c1, s1, t1, o1, i1, e1), (0, 1, f1), ?_, ?_, hRS, Or.inr ⟨rfl, rfl⟩⟩
    · unfold F_X5_siphon
      refine Ob_i g1 (G_i hx ?_)
      by_cases z : x < 0
      · exact if_i z rfl
      · exact el_i z (G_i (by dsimp only; omega) (el_i (by dsimp only; omega) rfl))
    · unfold F_X6_siphon F_X6_siphon_b20
      exact Ob_i k1 (Ob_i m1 (G_i (by omega) (if_i hri (Ob_i (goesWell_n (by omega) (by omega)) (G_i (by omega) (if_i rfl rfl))))))
theorem op_trap {P F sh ss sf cnt th x : Int} {w ta lo gi le : Nat → Int} (hw : wOk w) (hP : 0 ≤ P ∧ P ≤ 6) (hF : 0 ≤ F ∧ F ≤ 8) (hsh : 0 ≤ sh ∧ sh < 1000000) (hx : inR x) (hR : RSe P F w sh ss sf cnt ta lo gi le) :
    ∃ rx rm, F_X5_trap x P F sh w sf cnt ss ta lo gi le = some rx ∧ F_X6_trap x P F w th = some rm ∧ RSe P F w sh rx.2.2.2.2.1 rx.2.2.1 rx.2.2.2.1 rx.2.2.2.2.2.1 rx.2.2.2.2.2.2.1 rx.2.2.2.2.2.2.2.1 rx.2.2.2.2.2.2.2.2 ∧ ((rx.1 = 0 ∧ rm.2 = 0 ∧ rx.2.1 = rm.1 ∧ inR rx.2.1) ∨ (rx.1 = 1 ∧ rm.2 = 1)) := by
  obtain ⟨⟨f9, c1, s1, t1, o1, i1, e1⟩, g1, g0, g2, g3⟩ := sets_refresh_ok hw hP hF hsh hR
  have hp2 := p2_64 hP
  have h9 := g3.2.2
  dsimp only at g0 g2 g3 h9
  subst f9
  have hRS : RSe P F w sh s1 F c1 t1 o1 i1 e1 := ⟨by omega, fun _ => ⟨rfl, g3⟩⟩
  have he := iShl1_i hP
  obtain ⟨ri, m1, m2⟩ := in_ok (x := x) (a := 0) (b := ((2 ^ P.toNat : Nat) : Int) - 1) hx (by omega) (by omega)
  rw [← he] at m1
  by_cases c : 0 ≤ x ∧ x < ((2 ^ P.toNat : Nat) : Int)
  · obtain ⟨s, rfl⟩ : ∃ s : Nat, x = (s : Int) := ⟨x.toNat, by omega⟩
    have hri : ri = 1 := by
      rcases m2 with q | q
      · exact q.1
      · exact absurd (by omega) q.2
    have hs : s < 64 := by omega
    have hT := trapIn_ok (P := P) (F := F) hw hP hF hs
    rw [itT_6 hP (by omega)] at hT
    have hb := sub_le (itT_sub (P := P) (F := F) (w := w) P.toNat s hs)
    refine ⟨(0, ((itT P F w P.toNat s : Nat) : Int), F, c1, s1, t1, o1, i1, e1), (((itT P F w P.toNat s : Nat) : Int), 0), ?_, ?_, hRS, Or.inl ⟨rfl, rfl, rfl, by dsimp only; omega⟩⟩
    · unfold F_X5_trap
      refine G_i hx (el_i (by omega) (Bd_i ?_))
      rw [he]
      exact G_i (by omega) (if_i (by omega) (Ob_i g1 (Ob_i (greatestTrap_ok hP hF hs (fun f q1 q2 => (h9 f q1 q2).2.1) (fun f q1 q2 => (h9 f q1 q2).2.2)) rfl)))
    · unfold F_X6_trap F_X6_trap_b22
      exact Ob_i m1 (G_i (by omega) (el_i (by omega) (Ob_i goesWell_0 (G_i (by omega) (el_i (by omega) (Ob_i hT rfl))))))
  · have hri : ri = 0 := by
      rcases m2 with q | q
      · exact absurd (by omega) c
      · exact q.1
    refine ⟨(1, 0, sf, cnt, ss, ta, lo, gi, le), (0, 1), ?_, ?_, hR, Or.inr ⟨rfl, rfl⟩⟩
    · unfold F_X5_trap
      refine G_i hx ?_
      by_cases z : x < 0
      · exact if_i z rfl
      · refine el_i z (Bd_i ?_)
        rw [he]
        exact G_i (by omega) (el_i (by omega) rfl)
    · unfold F_X6_trap F_X6_trap_b22
      exact Ob_i m1 (G_i (by omega) (if_i hri (Ob_i (goesWell_n (by omega) (by omega)) (G_i (by omega) (if_i rfl rfl)))))
/-- a set has a token -/
def hasT (P : Int) (t : Int → Int) (s : Nat) : Prop := ∃ p : Int, (0 ≤ p ∧ p < P) ∧ s.testBit p.toNat = true ∧ 0 < t p
theorem hasTokenIn_ok {P : Int} {tok : Nat → Int} {s : Nat} (hP : 0 ≤ P ∧ P ≤ 6) (ht : tOk P (tk tok)) (hs : s < 64) : ∃ r, F_X3_hasTokenIn (s : Int) P (pk (cut P (tk tok))) = some r ∧ isB r (hasT P (tk tok) s) := by
  have key : ∀ (fu : Nat) (p : Int), 0 ≤ p → p ≤ P → P - p < fu → (∀ q : Int, 0 ≤ q → q < p → ¬ (s.testBit q.toNat = true ∧ 0 < tk tok q)) → ∃ r, F_X3_hasTokenIn_b2 P (pk (cut P (tk tok))) fu (s : Int) p = some r ∧ isB r (hasT P (tk tok) s) := by
    intro fu
    induction fu with
    | zero => intro p h1 h2 h3; exact absurd h3 (by omega)
    | succ fu ih =>
      intro p h1 h2 h3 h4
      show ∃ r, F_X3_hasTokenIn_b2_body P (pk (cut P (tk tok))) (F_X3_hasTokenIn_b2 P (pk (cut P (tk tok))) fu) (s : Int) p = some r ∧ _
      unfold F_X3_hasTokenIn_b2_body
      refine G_e (by omega) ?_
      by_cases c : P ≤ p
      · exact if_e c (G_e (Or.inl rfl) (so_e (Or.inr ⟨rfl, fun ⟨q, q1, q2⟩ => h4 q q1.1 (by omega) q2⟩)))
      · have go : ¬ (s.testBit p.toNat = true ∧ 0 < tk tok p) → ∃ r, F_X3_hasTokenIn_b32 P (pk (cut P (tk tok))) (F_X3_hasTokenIn_b2 P (pk (cut P (tk tok))) fu) (s : Int) p = some r ∧ isB r (hasT P (tk tok) s) := fun h => ih (p + 1) (by omega) (by omega) (by omega) (fun q q1 q2 => by
          by_cases e : q = p
          · rw [e]; exact h
          · exact h4 q q1 (by omega))
        refine el_e c (Bd_e ?_)
        rw [bit_n (by omega) (by omega)]
        by_cases b : s.testBit p.toNat = true
        · rw [if_pos b]
          have e9 : cut P (tk tok) p = tk tok p := if_pos (by omega)
          have h9 := ht p h1 (by omega)
          refine G_e (by omega) (if_e rfl (Ob_e (tokensIn_ok (bOk_le (cut_b ht) (by omega)) (by omega)) ?_))
          rw [e9]
          refine G_e (by omega) ?_
          by_cases z : tk tok p ≤ 0
          · exact if_e z (go (fun q => by have := q.2; omega))
          · exact el_e z (G_e (Or.inr rfl) (so_e (Or.inl ⟨rfl, p, ⟨h1, by omega⟩, b, by omega⟩)))
        · rw [if_neg b]
          exact G_e (by omega) (el_e (by omega) (go (fun q => b q.1)))
  unfold F_X3_hasTokenIn
  exact key NN 0 (by omega) hP.1 (NN_gt (by omega)) (fun q q1 q2 => absurd q2 (by omega))
theorem op_isPromising {P F sh ss sf cnt th : Int} {tok w ta lo gi le fd : Nat → Int} (hw : wOk w) (hP : 0 ≤ P ∧ P ≤ 6) (hF : 0 ≤ F ∧ F ≤ 8) (hsh : 0 ≤ sh ∧ sh < 1000000) (ht : tOk P (tk tok)) (hR : RSe P F w sh ss sf cnt ta lo gi le) :
    ∃ rx rm, F_X5_isPromising P F (pk (cut P (tk tok))) sh w sf cnt ss ta lo gi le = some rx ∧ F_X6_isPromising P F tok w th fd = some rm ∧ RSe P F w sh rx.2.2.2.1 rx.2.1 rx.2.2.1 rx.2.2.2.2.1 rx.2.2.2.2.2.1 rx.2.2.2.2.2.2.1 rx.2.2.2.2.2.2.2 ∧ rx.1 = rm.1 ∧ inR rx.1 := by
  obtain ⟨⟨f9, c1, s1, t1, o1, i1, e1⟩, g1, g0, g2, g3⟩ := sets_refresh_ok hw hP hF hsh hR
  obtain ⟨⟨n, f1⟩, k1, k2, k3⟩ := findSiphons_ok (P := P) (F := F) (f0 := fd) hw hP hF
  have hl := kSi_len (P := P) (F := F) (w := w) (c := 2 ^ P.toNat) (p2_64 hP).2
  have hp2 := p2_64 hP
  have h9 := g3.1
  have h8 := g3.2.2
  dsimp only at g0 g2 g3 k2 k3 h9 h8
  subst f9
  have hRS : RSe P F w sh s1 F c1 t1 o1 i1 e1 := ⟨by omega, fun _ => ⟨rfl, g3⟩⟩
  have hget : ∀ x : Int, 0 ≤ x → x < n → ∃ s : Nat, s < 2 ^ P.toNat ∧ e1 x.toNat = (s : Int) ∧ f1 x.toNat = (s : Int) := fun x q1 q2 => by
    obtain ⟨s, a1, a2, a3⟩ := kSi_get (x := x) hP g3.2.1 (by omega)
    exact ⟨s, a1, a2, a3 f1 k3⟩
  have cl : ∀ (fu : Nat) (i : Int), 0 ≤ i → i ≤ n → n - i < fu → (∀ j : Int, 0 ≤ j → j < i → hasT P (tk tok) (itT P F w P.toNat (f1 j.toNat).toNat)) → ∃ r, F_X5_isPromising_b9 P F (pk (cut P (tk tok))) sh w fu i F c1 s1 t1 o1 i1 e1 = some r ∧ (r.2 = (F, c1, s1, t1, o1, i1, e1) ∧ isB r.1 (∀ j : Int, 0 ≤ j → j < n → hasT P (tk tok) (itT P F w P.toNat (f1 j.toNat).toNat))) := by
    intro fu
    induction fu with
    | zero => intro i q1 q2 q3; exact absurd q3 (by omega)
    | succ fu ih =>
      intro i q1 q2 q3 q4
      show ∃ r, F_X5_isPromising_b9_body P F (pk (cut P (tk tok))) sh w (F_X5_isPromising_b9 P F (pk (cut P (tk tok))) sh w fu) i F c1 s1 t1 o1 i1 e1 = some r ∧ _
      unfold F_X5_isPromising_b9_body
      refine G_e (by omega) ?_
      by_cases c : c1 ≤ i
      · exact if_e c (G_e (Or.inr rfl) (so_e ⟨rfl, Or.inl ⟨rfl, fun j j1 j2 => q4 j j1 (by omega)⟩⟩))
      · obtain ⟨s, a1, a2, a3⟩ := hget i q1 (by omega)
        have hb := sub_le (itT_sub (P := P) (F := F) (w := w) P.toNat s (by omega))
        refine el_e c (Ob_e (leastSiphon_ok (by omega) (by omega)) ?_)
        rw [a2]
        obtain ⟨r4, b1, b2⟩ := hasTokenIn_ok (s := itT P F w P.toNat s) hP ht (by omega)
        refine Ob_e (greatestTrap_ok hP hF (by omega) (fun f q1 q2 => (h8 f q1 q2).2.1) (fun f q1 q2 => (h8 f q1 q2).2.2)) (Ob_e b1 (G_e (by have := isB_01 b2; omega) ?_))
        have e8 : (f1 i.toNat).toNat = s := by rw [a3]; rfl
        rcases b2 with ⟨rfl, b2⟩ | ⟨rfl, b2⟩
        · refine el_e (by omega) (Bd_e (ih (i + 1) (by omega) (by omega) (by omega) (fun j j1 j2 => ?_)))
          by_cases e : j = i
          · rw [e, e8]; exact b2
          · exact q4 j j1 (by omega)
        · refine if_e rfl (G_e (Or.inl rfl) (so_e ⟨rfl, Or.inr ⟨rfl, fun z => b2 ?_⟩⟩))
          have := z i q1 (by omega)
          rw [e8] at this
          exact this
  -- the reference
  have mp : ∀ (ag14 : Int → Int → Int → Int → (Nat → Int) → Option (Int × (Int) × (Nat → Int))) (i is : Int) (s : Nat), s < 64 → ∀ (fu : Nat) (d p : Int), 0 ≤ p → p ≤ P → P - p < fu → (is = 0 ∨ is = 1) → isB d (∃ q : Int, (0 ≤ q ∧ q < p) ∧ s.testBit q.toNat = true ∧ 0 < tk tok q) → ∃ e, isB e (is = 1 ∧ hasT P (tk tok) s) ∧ F_X6_isPromising_b37 P F tok w ag14 fu n is i (s : Int) d p 0 f1 = ag14 n e (i + 1) 0 f1 := by
    intro ag14 i is s hs fu
    induction fu with
    | zero => intro d p q1 q2 q3; exact absurd q3 (by omega)
    | succ fu ih =>
      intro d p q1 q2 q3 q4 q5
      show ∃ e, _ ∧ F_X6_isPromising_b37_body P F tok w ag14 (F_X6_isPromising_b37 P F tok w ag14 fu) n is i (s : Int) d p 0 f1 = _
      unfold F_X6_isPromising_b37_body
      by_cases c : P ≤ p
      · have hd : isB d (hasT P (tk tok) s) := isB_iff q5 (by rw [show P = p by omega]; exact Iff.rfl)
        by_cases z : is = 0
        · exact ⟨0, Or.inr ⟨rfl, fun q => by have := q.1; omega⟩, G_i (by omega) (if_i c (G_i (by omega) (if_i z rfl)))⟩
        · rcases hd with ⟨rfl, hd⟩ | ⟨rfl, hd⟩
          · exact ⟨1, Or.inl ⟨rfl, by omega, hd⟩, G_i (by omega) (if_i c (G_i (by omega) (el_i z (G_i (by omega) (el_i (by omega) rfl)))))⟩
          · exact ⟨0, Or.inr ⟨rfl, fun q => hd q.2⟩, G_i (by omega) (if_i c (G_i (by omega) (el_i z (G_i (by omega) (if_i rfl rfl)))))⟩
      · have ht9 : 0 ≤ tok p.toNat ∧ tok p.toNat ≤ 99 := ht p q1 (by omega)
        have yes : (∃ q : Int, (0 ≤ q ∧ q < p + 1) ∧ s.testBit q.toNat = true ∧ 0 < tk tok q) → ∃ e, isB e (is = 1 ∧ hasT P (tk tok) s) ∧ F_X6_isPromising_b72 P F tok w ag14 (F_X6_isPromising_b37 P F tok w ag14 fu) n is i (s : Int) p 0 f1 = ag14 n e (i + 1) 0 f1 := fun h => ih 1 (p + 1) (by omega) (by omega) (by omega) q4 (Or.inl ⟨rfl, h⟩)
        have no : ¬ (∃ q : Int, (0 ≤ q ∧ q < p + 1) ∧ s.testBit q.toNat = true ∧ 0 < tk tok q) → ∃ e, isB e (is = 1 ∧ hasT P (tk tok) s) ∧ F_X6_isPromising_b76 P F tok w ag14 (F_X6_isPromising_b37 P F tok w ag14 fu) n is i (s : Int) p 0 f1 = ag14 n e (i + 1) 0 f1 := fun h => ih 0 (p + 1) (by omega) (by omega) (by omega) q4 (Or.inr ⟨rfl, h⟩)
        rcases q5 with ⟨rfl, q5⟩ | ⟨rfl, q5⟩
        · obtain ⟨q, a1, a2⟩ := q5
          obtain ⟨e, b1, b2⟩ := yes ⟨q, by omega, a2⟩
          exact ⟨e, b1, G_i (by omega) (el_i c (G_i (by omega) (el_i (by omega) b2)))⟩
        · have one : ¬ (s.testBit p.toNat = true ∧ 0 < tk tok p) → ¬ (∃ q : Int, (0 ≤ q ∧ q < p + 1) ∧ s.testBit q.toNat = true ∧ 0 < tk tok q) := fun h ⟨q, a1, a2⟩ => by
            by_cases e : q = p
            · rw [e] at a2; exact h a2
            · exact q5 ⟨q, by omega, a2⟩
          by_cases b : s.testBit p.toNat = true
          · by_cases z : tok p.toNat ≤ 0
            · obtain ⟨e, b1, b2⟩ := no (one (fun q => by have h7 : 0 < tok p.toNat := q.2; omega))
              refine ⟨e, b1, G_i (by omega) (el_i c (G_i (by omega) (if_i rfl (Bd_i ?_))))⟩
              rw [bit_n (by omega) (by omega), if_pos b]
              exact G_i (by omega) (if_i rfl (G_i (by omega) (Bd_i (G_i (by omega) (if_i z b2)))))
            · obtain ⟨e, b1, b2⟩ := yes ⟨p, by omega, b, by show 0 < tok p.toNat; omega⟩
              refine ⟨e, b1, G_i (by omega) (el_i c (G_i (by omega) (if_i rfl (Bd_i ?_))))⟩
              rw [bit_n (by omega) (by omega), if_pos b]
              exact G_i (by omega) (if_i rfl (G_i (by omega) (Bd_i (G_i (by omega) (el_i z b2)))))
          · obtain ⟨e, b1, b2⟩ := no (one (fun q => b q.1))
            refine ⟨e, b1, G_i (by omega) (el_i c (G_i (by omega) (if_i rfl (Bd_i ?_))))⟩
            rw [bit_n (by omega) (by omega), if_neg b]
            exact G_i (by omega) (el_i (by omega) b2)
  have ml : ∀ (fu : Nat) (d i : Int), 0 ≤ i → i ≤ n → n - i < fu → isB d (∀ j : Int, 0 ≤ j → j < i → hasT P (tk tok) (itT P F w P.toNat (f1 j.toNat).toNat)) → ∃ r, F_X6_isPromising_b14 P F tok w fu n d i 0 f1 = some r ∧ (r.2 = (0, f1) ∧ isB r.1 (∀ j : Int, 0 ≤ j → j < n → hasT P (tk tok) (itT P F w P.toNat (f1 j.toNat).toNat))) := by
    intro fu
    induction fu with
    | zero => intro d i q1 q2 q3; exact absurd q3 (by omega)
    | succ fu ih =>
      intro d i q1 q2 q3 q4
      show ∃ r, F_X6_isPromising_b14_body P F tok w (F_X6_isPromising_b14 P F tok w fu) n d i 0 f1 = some r ∧ _
      unfold F_X6_isPromising_b14_body
      refine G_e (by omega) ?_
      by_cases c : n ≤ i
      · refine if_e c (G_e (isB_01 q4) (so_e ⟨rfl, ?_⟩))
        rw [show n = i by omega]
        exact q4
      · obtain ⟨s, a1, a2, a3⟩ := hget i q1 (by omega)
        have hb := sub_le (itT_sub (P := P) (F := F) (w := w) P.toNat s (by omega))
        have e8 : (f1 i.toNat).toNat = s := by rw [a3]; rfl
        have hT := trapIn_ok (P := P) (F := F) (s := s) hw hP hF (by omega)
        rw [itT_6 hP a1] at hT
        refine el_e c (G_e (by omega) (Bd_e ?_))
        rw [a3]
        refine Ob_e hT ?_
        obtain ⟨e, b1, b2⟩ := mp (F_X6_isPromising_b14 P F tok w fu) i d (itT P F w P.toNat s) (by omega) NN 0 0 (by omega) hP.1 (NN_gt (by omega)) (isB_01 q4) (Or.inr ⟨rfl, fun ⟨q, a, _⟩ => by omega⟩)
        rw [b2]
        refine ih e (i + 1) (by omega) (by omega) (by omega) (isB_iff b1 ⟨fun q j j1 j2 => ?_, fun q => ⟨?_, ?_⟩⟩)
        · by_cases t : j = i
          · rw [t, e8]; exact q.2
          · rcases q4 with z | z
            · exact z.2 j j1 (by omega)
            · exact absurd z.1 (by have := q.1; omega)
        · rcases q4 with z | z
          · exact z.1
          · exact absurd (fun j j1 j2 => q j j1 (by omega)) z.2
        · have := q i q1 (by omega)
          rw [e8] at this
          exact this
  obtain ⟨rx, x1, x2, x3⟩ := cl NN 0 (by omega) (by omega) (by have := NN_gt (z := 100) (by omega); omega) (fun j j1 j2 => absurd j2 (by omega))
  obtain ⟨rm, m1, m2, m3⟩ := ml NN 1 0 (by omega) (by omega) (by have := NN_gt (z := 100) (by omega); omega) (Or.inl ⟨rfl, fun j j1 j2 => absurd j2 (by omega)⟩)
  have h01 := isB_01 x3
  refine ⟨rx, rm, Ob_i g1 x1, Ob_i k1 m1, ?_, isB_eq x3 m3, by omega⟩
  rw [x2]
  exact hRS
