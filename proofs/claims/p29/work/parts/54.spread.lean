/-! the reference's spreading of marks -/
def SI (n F : Int) (ld : Nat → Int) (S : Int → Prop) (co : Nat → Int) : Prop :=
  (∀ x : Nat, x < n.toNat → co x = 0 ∨ co x = 1) ∧ (∀ x : Int, 0 ≤ x → x < n → co x.toNat ≠ 0 → clo n F ld S x) ∧ (∀ y : Int, S y → 0 ≤ y ∧ y < n ∧ co y.toNat ≠ 0)
/-- nothing leads from m into the marked, if m is not marked itself -/
def quiet (F : Int) (ld co : Nat → Int) (m g : Int) : Prop := co m.toNat = 0 → ∀ f : Int, 0 ≤ f → f < g → ld (8 * m + f).toNat = -1 ∨ co (ld (8 * m + f).toNat).toNat = 0
def ldOk (n F : Int) (ld : Nat → Int) : Prop := ∀ m f : Int, 0 ≤ m → m < n → 0 ≤ f → f < F → -1 ≤ ld (8 * m + f).toNat ∧ ld (8 * m + f).toNat < n
theorem ldOk_of {n F : Int} {ta la ne ld : Nat → Int} (hE : ER F (8 * n).toNat n ta la ne ld) (hF : F ≤ 8) : ldOk n F ld := fun m f m1 m2 f1 f2 => (hE.1 (8 * m + f).toNat (by omega) (by omega)).2
theorem spread_f {n F m : Int} {ld : Nat → Int} (hL : ldOk n F ld) (hn : 1 ≤ n ∧ n ≤ 300) (hF : 0 ≤ F ∧ F ≤ 8) (hm : 0 ≤ m ∧ m < n) (ag2 : Int → Int → (Nat → Int) → Option ((Nat → Int))) (ag10 : Int → Int → Int → (Nat → Int) → Option ((Nat → Int))) :
    ∀ (fu : Nat) (f l2 : Int) (co : Nat → Int), (∀ x : Nat, x < n.toNat → co x = 0 ∨ co x = 1) → 0 ≤ f → f ≤ F → F - f < fu → quiet F ld co m f →
      ∃ l2' co', F_X6_spread_b18 F ld ag2 ag10 fu n l2 m f co = ag10 n l2' (m + 1) co' ∧ ((co' = co ∧ l2' = l2 ∧ quiet F ld co m F) ∨ (co m.toNat = 0 ∧ l2' = 1 ∧ co' = uI co m.toNat 1 ∧ ∃ g : Int, 0 ≤ g ∧ g < F ∧ ld (8 * m + g).toNat ≠ -1 ∧ co (ld (8 * m + g).toNat).toNat ≠ 0)) := by
  intro fu
  induction fu with
  | zero => intro f l2 co h0 h1 h2 h3; exact absurd h3 (by omega)
  | succ fu ih =>
    intro f l2 co h0 h1 h2 h3 hq
    show ∃ l2' co', F_X6_spread_b18_body F ld ag2 ag10 (F_X6_spread_b18 F ld ag2 ag10 fu) n l2 m f co = ag10 n l2' (m + 1) co' ∧ _
    unfold F_X6_spread_b18_body F_X6_spread_b81 F_X6_spread_b75
    have hc := h0 m.toNat (by omega)
    by_cases c : F ≤ f
    · obtain rfl : f = F := by omega
      exact ⟨l2, co, G_i (by omega) (if_i c (Bd_i rfl)), Or.inl ⟨rfl, rfl, hq⟩⟩
    · by_cases z : co m.toNat = 0
      · have hl := hL m f hm.1 hm.2 h1 (by omega)
        by_cases y : ld (8 * m + f).toNat = -1
        · obtain ⟨l2', co', g1, g2⟩ := ih (f + 1) l2 co h0 (by omega) (by omega) (by omega) (fun _ g q1 q2 => by
            by_cases e : g = f
            · rw [e]; exact Or.inl y
            · exact hq z g q1 (by omega))
          exact ⟨l2', co', G_i (by omega) (el_i c (G_i (by omega) (Bd_i (G_i (by omega) (if_i z (Bd_i (G_i (by omega) (Bd_i (G_i (by omega) (if_i y (Bd_i g1))))))))))), g2⟩
        · have hv := h0 (ld (8 * m + f).toNat).toNat (by omega)
          have hv2 : inR (co (ld (8 * m + f).toNat).toNat) := by omega
          by_cases v : co (ld (8 * m + f).toNat).toNat = 0
          · obtain ⟨l2', co', g1, g2⟩ := ih (f + 1) l2 co h0 (by omega) (by omega) (by omega) (fun _ g q1 q2 => by
              by_cases e : g = f
              · rw [e]; exact Or.inr v
              · exact hq z g q1 (by omega))
            exact ⟨l2', co', G_i (by omega) (el_i c (G_i (by omega) (Bd_i (G_i (by omega) (if_i z (Bd_i (G_i (by omega) (Bd_i (G_i (by omega) (el_i y (G_i (by omega) (Bd_i (G_i hv2 (if_i v (Bd_i g1))))))))))))))), g2⟩
          · obtain ⟨l2', co', g1, g2⟩ := ih (f + 1) 1 (uI co m.toNat 1) (fun x hx => by
              by_cases e : x = m.toNat
              · rw [e, uI_same]; exact Or.inr rfl
              · rw [uI_ne _ _ e]; exact h0 x hx) (by omega) (by omega) (by omega) (fun q => by rw [uI_same] at q; omega)
            refine ⟨l2', co', G_i (by omega) (el_i c (G_i (by omega) (Bd_i (G_i (by omega) (if_i z (Bd_i (G_i (by omega) (Bd_i (G_i (by omega) (el_i y (G_i (by omega) (Bd_i (G_i hv2 (el_i v (G_i (by omega) (Bd_i (Bd_i g1))))))))))))))))), ?_⟩
            rcases g2 with ⟨k1, k2, -⟩ | ⟨k1, -⟩
            · exact Or.inr ⟨z, k2, k1, f, h1, by omega, y, v⟩
            · rw [uI_same] at k1; omega
      · exact ⟨l2, co, G_i (by omega) (el_i c (G_i (by omega) (Bd_i (G_i (by omega) (el_i z (Bd_i rfl)))))), Or.inl ⟨rfl, rfl, fun q => absurd q z⟩⟩
theorem spread_m {n F c0 : Int} {ld : Nat → Int} {S : Int → Prop} (hL : ldOk n F ld) (hn : 1 ≤ n ∧ n ≤ 300) (hF : 0 ≤ F ∧ F ≤ 8) (ag2 : Int → Int → (Nat → Int) → Option ((Nat → Int))) :
    ∀ (fu : Nat) (m l2 : Int) (co : Nat → Int), SI n F ld S co → 0 ≤ m → m ≤ n → n - m < fu → c0 ≤ cnz co n.toNat → ((l2 = 0 ∧ ∀ k : Int, 0 ≤ k → k < m → quiet F ld co k F) ∨ (l2 = 1 ∧ c0 < cnz co n.toNat)) →
      ∃ l2' co', F_X6_spread_b10 F ld ag2 fu n l2 m co = ag2 n l2' co' ∧ SI n F ld S co' ∧ ((l2' = 0 ∧ ∀ k : Int, 0 ≤ k → k < n → quiet F ld co' k F) ∨ (l2' = 1 ∧ c0 < cnz co' n.toNat)) := by
  intro fu
  induction fu with
  | zero => intro m l2 co h0 h1 h2 h3; exact absurd h3 (by omega)
  | succ fu ih =>
    intro m l2 co hS h1 h2 h3 h4 h5
    show ∃ l2' co', F_X6_spread_b10_body F ld ag2 (F_X6_spread_b10 F ld ag2 fu) n l2 m co = ag2 n l2' co' ∧ _
    unfold F_X6_spread_b10_body
    by_cases c : n ≤ m
    · obtain rfl : m = n := by omega
      exact ⟨l2, co, G_i (by omega) (if_i c rfl), hS, h5⟩
    · obtain ⟨l2', co', g1, g2⟩ := spread_f hL hn hF ⟨h1, by omega⟩ ag2 (F_X6_spread_b10 F ld ag2 fu) NN 0 l2 co hS.1 (by omega) hF.1 (NN_gt (by omega)) (fun _ f f1 f2 => absurd f2 (by omega))
      have go : SI n F ld S co' → c0 ≤ cnz co' n.toNat → ((l2' = 0 ∧ ∀ k : Int, 0 ≤ k → k < m + 1 → quiet F ld co' k F) ∨ (l2' = 1 ∧ c0 < cnz co' n.toNat)) → ∃ l2' co', F_X6_spread_b10_body F ld ag2 (F_X6_spread_b10 F ld ag2 fu) n l2 m co = ag2 n l2' co' ∧ SI n F ld S co' ∧ ((l2' = 0 ∧ ∀ k : Int, 0 ≤ k → k < n → quiet F ld co' k F) ∨ (l2' = 1 ∧ c0 < cnz co' n.toNat)) := fun q1 q2 q3 => by
        obtain ⟨a, b, k1, k2, k3⟩ := ih (m + 1) l2' co' q1 (by omega) (by omega) (by omega) q2 q3
        refine ⟨a, b, ?_, k2, k3⟩
        unfold F_X6_spread_b10_body
        exact G_i (by omega) (el_i c (g1.trans k1))
      unfold F_X6_spread_b10_body at go
      rcases g2 with ⟨k1, k2, k3⟩ | ⟨k1, k2, k3, g, k4, k5, k6, k7⟩
      · subst k1 k2
        refine go hS h4 ?_
        rcases h5 with ⟨p1, p2⟩ | p
        · refine Or.inl ⟨p1, fun k q1 q2 => ?_⟩
          by_cases e : k = m
          · rw [e]; exact k3
          · exact p2 k q1 (by omega)
        · exact Or.inr p
      · have hput := cnz_put (f := co) (s := m.toNat) (x := 1) k1 (by omega) n.toNat
        rw [if_pos (by omega)] at hput
        subst k3
        refine go ⟨fun x hx => ?_, fun x x1 x2 x3 => ?_, fun y hy => ?_⟩ (by omega) (Or.inr ⟨k2, by omega⟩)
        · by_cases e : x = m.toNat
          · rw [e, uI_same]; exact Or.inr rfl
          · rw [uI_ne _ _ e]; exact hS.1 x hx
        · by_cases e : x = m
          · rw [e]
            have hl := hL m g h1 (by omega) k4 k5
            exact fun C c1 c2 => c2 m g h1 (by omega) k4 k5 k6 (hS.2.1 _ (by omega) hl.2 k7 C c1 c2)
          · rw [uI_ne _ _ (by omega)] at x3
            exact hS.2.1 x x1 x2 x3
        · have := hS.2.2 y hy
          refine ⟨this.1, this.2.1, ?_⟩
          by_cases e : y.toNat = m.toNat
          · rw [e, uI_same]; omega
          · rw [uI_ne _ _ e]; exact this.2.2
theorem spread_ok {n F : Int} {ld co : Nat → Int} {S : Int → Prop} (hL : ldOk n F ld) (hn : 1 ≤ n ∧ n ≤ 300) (hF : 0 ≤ F ∧ F ≤ 8) (hS : SI n F ld S co) :
    ∃ r, F_X6_spread n F ld co = some r ∧ ((∀ x : Nat, x < n.toNat → r x = 0 ∨ r x = 1) ∧ ∀ x : Int, 0 ≤ x → x < n → (r x.toNat ≠ 0 ↔ clo n F ld S x)) := by
  have key : ∀ (fu : Nat) (l2 : Int) (co : Nat → Int), SI n F ld S co → n - cnz co n.toNat + 1 < fu → ((l2 = 0 ∧ ∀ k : Int, 0 ≤ k → k < n → quiet F ld co k F) ∨ l2 = 1) →
      ∃ r, F_X6_spread_b2 F ld fu n l2 co = some r ∧ ((∀ x : Nat, x < n.toNat → r x = 0 ∨ r x = 1) ∧ ∀ x : Int, 0 ≤ x → x < n → (r x.toNat ≠ 0 ↔ clo n F ld S x)) := by
    intro fu
    induction fu with
    | zero =>
      intro l2 co h1 h2
      have := cnz_le (f := co) n.toNat
      exact absurd h2 (by omega)
    | succ fu ih =>
      intro l2 co h1 h2 h3
      show ∃ r, F_X6_spread_b2_body F ld (F_X6_spread_b2 F ld fu) n l2 co = some r ∧ _
      unfold F_X6_spread_b2_body
      refine G_e (by omega) ?_
      by_cases c : l2 = 0
      · have hq : ∀ k : Int, 0 ≤ k → k < n → quiet F ld co k F := by
          rcases h3 with ⟨-, p⟩ | p
          · exact p
          · omega
        refine if_e c (so_e ⟨h1.1, fun x x1 x2 => ⟨fun z => h1.2.1 x x1 x2 z, fun z => ?_⟩⟩)
        refine (z (fun x => 0 ≤ x ∧ x < n ∧ co x.toNat ≠ 0) h1.2.2 (fun m f m1 m2 f1 f2 g1 g2 => ⟨m1, m2, fun e => ?_⟩)).2.2
        rcases hq m m1 m2 e f f1 f2 with p | p
        · exact g1 p
        · exact g2.2.2 p
      · refine el_e c ?_
        obtain ⟨l2', co', g1, g2, g3⟩ := spread_m (c0 := cnz co n.toNat) hL hn hF (F_X6_spread_b2 F ld fu) NN 0 0 co h1 (by omega) (by omega) (NN_gt (by omega)) (by omega) (Or.inl ⟨rfl, fun k k1 k2 => absurd k2 (by omega)⟩)
        rw [g1]
        have hb := cnz_le (f := co') n.toNat
        have hb0 := cnz_le (f := co) n.toNat
        rcases g3 with ⟨p1, p2⟩ | ⟨p1, p2⟩
        · obtain ⟨fu, rfl⟩ : ∃ k, fu = k + 1 := ⟨fu - 1, by omega⟩
          subst p1
          show ∃ r, F_X6_spread_b2_body F ld (F_X6_spread_b2 F ld fu) n 0 co' = some r ∧ _
          unfold F_X6_spread_b2_body
          refine G_e (by omega) (if_e rfl (so_e ⟨g2.1, fun x x1 x2 => ⟨fun z => g2.2.1 x x1 x2 z, fun z => ?_⟩⟩))
          refine (z (fun x => 0 ≤ x ∧ x < n ∧ co' x.toNat ≠ 0) g2.2.2 (fun m f m1 m2 f1 f2 g1 g2 => ⟨m1, m2, fun e => ?_⟩)).2.2
          rcases p2 m m1 m2 e f f1 f2 with p | p
          · exact g1 p
          · exact g2.2.2 p
        · exact ih l2' co' g2 (by omega) (Or.inr p1)
  unfold F_X6_spread
  have hb0 := cnz_le (f := co) n.toNat
  exact key NN 1 co hS (NN_gt (by omega)) (Or.inr rfl)
theorem allCome_ok {n : Int} {co : Nat → Int} (hn : 1 ≤ n ∧ n ≤ 300) (h0 : ∀ x : Nat, x < n.toNat → co x = 0 ∨ co x = 1) : ∃ r, F_X6_allCome n co = some r ∧ isB r (∀ x : Int, 0 ≤ x → x < n → co x.toNat ≠ 0) := by
  have key : ∀ (fu : Nat) (d k : Int), 0 ≤ k → k ≤ n → n - k < fu → isB d (∀ x : Int, 0 ≤ x → x < k → co x.toNat ≠ 0) → ∃ r, F_X6_allCome_b4 co fu n d k = some r ∧ isB r (∀ x : Int, 0 ≤ x → x < n → co x.toNat ≠ 0) := by
    intro fu
    induction fu with
    | zero => intro d k h1 h2 h3; exact absurd h3 (by omega)
    | succ fu ih =>
      intro d k h1 h2 h3 hd
      show ∃ r, F_X6_allCome_b4_body co (F_X6_allCome_b4 co fu) n d k = some r ∧ _
      unfold F_X6_allCome_b4_body F_X6_allCome_b26 F_X6_allCome_b27
      refine G_e (by omega) ?_
      by_cases c : n ≤ k
      · obtain rfl : k = n := by omega
        exact if_e c (G_e (isB_01 hd) (so_e hd))
      · refine el_e c (G_e (by have := isB_01 hd; omega) ?_)
        have hk := h0 k.toNat (by omega)
        rcases hd with ⟨d1, d2⟩ | ⟨d1, d2⟩
        · refine el_e (by omega) (G_e (by omega) (Bd_e (G_e (by omega) ?_)))
          by_cases z : co k.toNat = 0
          · exact if_e z (Bd_e (ih 0 (k + 1) (by omega) (by omega) (by omega) (Or.inr ⟨rfl, fun y => y k h1 (by omega) z⟩)))
          · refine el_e z (Bd_e (ih 1 (k + 1) (by omega) (by omega) (by omega) (Or.inl ⟨rfl, fun x x1 x2 => ?_⟩)))
            by_cases e : x = k
            · rw [e]; exact z
            · exact d2 x x1 (by omega)
        · exact if_e d1 (Bd_e (ih 0 (k + 1) (by omega) (by omega) (by omega) (Or.inr ⟨rfl, fun y => d2 (fun x x1 x2 => y x x1 (by omega))⟩)))
  unfold F_X6_allCome
  exact key NN 1 0 (by omega) (by omega) (NN_gt (by omega)) (Or.inl ⟨rfl, fun x x1 x2 => absurd x2 (by omega)⟩)
