/-! firings besides: the reference goes to an end, the class goes so far as the log is long -/
def bel (n : Int) (a b : Nat → Int) : Prop := ∀ m : Int, 0 ≤ m → m < n → a m.toNat ≤ b m.toNat
def nnA (n : Int) (a : Nat → Int) : Prop := ∀ m : Int, 0 ≤ m → m < n → 0 ≤ a m.toNat
def okE (ld E : Nat → Int) (m f : Int) : Prop := ld (8 * m + f).toNat ≠ -1 → E (ld (8 * m + f).toNat).toNat ≤ E m.toNat + 1
def cEd (n F : Int) (ld E : Nat → Int) : Prop := ∀ m f : Int, 0 ≤ m → m < n → 0 ≤ f → f < F → okE ld E m f
def ldB (n F : Int) (ld : Nat → Int) : Prop := ∀ m f : Int, 0 ≤ m → m < n → 0 ≤ f → f < F → -1 ≤ ld (8 * m + f).toNat ∧ ld (8 * m + f).toNat < n
theorem bel_rf {n : Int} {a : Nat → Int} : bel n a a := fun _ _ _ => Int.le_refl _
theorem bel_tr {n : Int} {a b c : Nat → Int} (h : bel n a b) (h2 : bel n b c) : bel n a c := fun m m1 m2 => Int.le_trans (h m m1 m2) (h2 m m1 m2)
/-- a value made lower -/
theorem bel_upd {n t x : Int} {a b : Nat → Int} (h : bel n a b) (hx : x ≤ b t.toNat) : bel n (uI a t.toNat x) b := fun m m1 m2 => by
  by_cases q : m.toNat = t.toNat
  · rw [q, uI_same]; exact hx
  · rw [uI_ne _ _ q]; exact h m m1 m2
theorem bel_low {n t x : Int} {E a : Nat → Int} (h : bel n E a) (hx : E t.toNat ≤ x) : bel n E (uI a t.toNat x) := fun m m1 m2 => by
  by_cases q : m.toNat = t.toNat
  · rw [q, uI_same]; exact hx
  · rw [uI_ne _ _ q]; exact h m m1 m2
theorem nnA_upd {n t x : Int} {a : Nat → Int} (h : nnA n a) (hx : 0 ≤ x) : nnA n (uI a t.toNat x) := fun m m1 m2 => by
  by_cases q : m.toNat = t.toNat
  · rw [q, uI_same]; exact hx
  · rw [uI_ne _ _ q]; exact h m m1 m2
theorem si_nn0 {a : Nat → Int} : ∀ (n : Nat), (∀ i, i < n → 0 ≤ a i) → 0 ≤ si n a
  | 0, _ => Int.le_refl _
  | n + 1, h => by
    have h1 := si_nn0 n (fun i hi => h i (by omega))
    have h2 := h n (by omega)
    rw [si]
    omega
/-! the reference -/
def gbI (n F : Int) (ld c0 cur : Nat → Int) (more : Int) (D : Prop) : Prop :=
  bel n cur c0 ∧ nnA n cur ∧ (∀ E, cEd n F ld E → bel n E c0 → bel n E cur) ∧ ((more = 0 ∧ cur = c0 ∧ D) ∨ (more = 1 ∧ si n.toNat cur < si n.toNat c0))
theorem gb_pass {n F : Int} {ld c0 : Nat → Int} (hn : 1 ≤ n ∧ n ≤ 300) (hF : 0 ≤ F ∧ F ≤ 8) (hl : ldB n F ld) (h0 : bel n c0 (fun _ => 2000)) (ag2 : Int → Int → (Nat → Int) → Option (Nat → Int)) :
    ∀ (fu : Nat) (m more : Int) (cur : Nat → Int), 0 ≤ m → m ≤ n → n - m < fu → gbI n F ld c0 cur more (∀ m' f', 0 ≤ m' → m' < m → 0 ≤ f' → f' < F → okE ld c0 m' f') → ∃ more' cur', gbI n F ld c0 cur' more' (cEd n F ld c0) ∧ F_X6_goBesides_b10 F ld ag2 fu n more m cur = ag2 n more' cur' := by
  have fire : ∀ (ag10 : Int → Int → Int → (Nat → Int) → Option (Nat → Int)) (m : Int), 0 ≤ m ∧ m < n → ∀ (fu : Nat) (f more : Int) (cur : Nat → Int), 0 ≤ f → f ≤ F → F - f < fu → gbI n F ld c0 cur more (∀ m' f', 0 ≤ m' → m' ≤ m → 0 ≤ f' → f' < F → (m' < m ∨ f' < f) → okE ld c0 m' f') → ∃ more' cur', gbI n F ld c0 cur' more' (∀ m' f', 0 ≤ m' → m' ≤ m → 0 ≤ f' → f' < F → okE ld c0 m' f') ∧ F_X6_goBesides_b18 F ld ag2 ag10 fu n more m f cur = ag10 n more' (m + 1) cur' := by
    intro ag10 m hm fu
    induction fu with
    | zero => intro f more cur h1 h2 h3; exact absurd h3 (by omega)
    | succ fu ih =>
      intro f more cur h1 h2 h3 h4
      show ∃ more' cur', _ ∧ F_X6_goBesides_b18_body F ld ag2 ag10 (F_X6_goBesides_b18 F ld ag2 ag10 fu) n more m f cur = _
      unfold F_X6_goBesides_b18_body
      obtain ⟨a1, a2, a3, a4⟩ := h4
      by_cases z : F ≤ f
      · refine ⟨more, cur, ⟨a1, a2, a3, ?_⟩, G_i (by omega) (if_i z rfl)⟩
        rcases a4 with ⟨b1, b2, b3⟩ | b
        · exact Or.inl ⟨b1, b2, fun m' f' c1 c2 c3 c4 => b3 m' f' c1 c2 c3 c4 (by omega)⟩
        · exact Or.inr b
      · obtain ⟨t1, t2⟩ := hl m f hm.1 hm.2 h1 (by omega)
        have cm := a2 m hm.1 hm.2
        have cM := a1 m hm.1 hm.2
        have cM2 := h0 m hm.1 hm.2
        dsimp only at cM2
        by_cases y : ld (8 * m + f).toNat = -1
        · obtain ⟨more', cur', g1, g2⟩ := ih (f + 1) more cur (by omega) (by omega) (by omega) ⟨a1, a2, a3, by
            rcases a4 with ⟨b1, b2, b3⟩ | b
            · refine Or.inl ⟨b1, b2, fun m' f' c1 c2 c3 c4 c5 => ?_⟩
              by_cases q : m' = m ∧ f' = f
              · rw [q.1, q.2]; exact fun w => absurd y w
              · exact b3 m' f' c1 c2 c3 c4 (by omega)
            · exact Or.inr b⟩
          exact ⟨more', cur', g1, G_i (by omega) (el_i z (Bd_i (G_i (by omega) (Bd_i (G_i (by omega) (if_i y g2))))))⟩
        · have ct := a2 (ld (8 * m + f).toNat) (by omega) t2
          have cT := a1 (ld (8 * m + f).toNat) (by omega) t2
          have cT2 := h0 (ld (8 * m + f).toNat) (by omega) t2
          dsimp only at cT2
          by_cases x : cur (ld (8 * m + f).toNat).toNat ≤ cur m.toNat + 1
          · obtain ⟨more', cur', g1, g2⟩ := ih (f + 1) more cur (by omega) (by omega) (by omega) ⟨a1, a2, a3, by
              rcases a4 with ⟨b1, b2, b3⟩ | b
              · refine Or.inl ⟨b1, b2, fun m' f' c1 c2 c3 c4 c5 => ?_⟩
                by_cases q : m' = m ∧ f' = f
                · rw [q.1, q.2]; intro _; rw [b2] at x; exact x
                · exact b3 m' f' c1 c2 c3 c4 (by omega)
              · exact Or.inr b⟩
            exact ⟨more', cur', g1, G_i (by omega) (el_i z (Bd_i (G_i (by omega) (Bd_i (G_i (by omega) (el_i y (G_i (by omega) (Bd_i (G_i (by omega) (Bd_i (Bd_i (G_i (by omega) (if_i x g2)))))))))))))⟩
          · obtain ⟨more', cur', g1, g2⟩ := ih (f + 1) 1 (uI cur (ld (8 * m + f).toNat).toNat (cur m.toNat + 1)) (by omega) (by omega) (by omega) ⟨bel_upd a1 (by omega), nnA_upd a2 (by omega), fun E hE hE0 => bel_low (a3 E hE hE0) (by
                have e1 := a3 E hE hE0 m hm.1 hm.2
                have e2 := hE m f hm.1 hm.2 h1 (by omega) y
                omega), Or.inr ⟨rfl, by
                have := si_upd (a := cur) (i := (ld (8 * m + f).toNat).toNat) (x := cur m.toNat + 1) n.toNat (by omega)
                rcases a4 with ⟨b1, b2, b3⟩ | b
                · rw [b2] at this x ⊢; omega
                · omega⟩⟩
            exact ⟨more', cur', g1, G_i (by omega) (el_i z (Bd_i (G_i (by omega) (Bd_i (G_i (by omega) (el_i y (G_i (by omega) (Bd_i (G_i (by omega) (Bd_i (Bd_i (G_i (by omega) (el_i x (G_i (by omega) (Bd_i (Bd_i (G_i (by omega) (Bd_i g2))))))))))))))))))⟩
  intro fu
  induction fu with
  | zero => intro m more cur h1 h2 h3; exact absurd h3 (by omega)
  | succ fu ih =>
    intro m more cur h1 h2 h3 h4
    show ∃ more' cur', _ ∧ F_X6_goBesides_b10_body F ld ag2 (F_X6_goBesides_b10 F ld ag2 fu) n more m cur = _
    unfold F_X6_goBesides_b10_body
    obtain ⟨a1, a2, a3, a4⟩ := h4
    by_cases z : n ≤ m
    · refine ⟨more, cur, ⟨a1, a2, a3, ?_⟩, G_i (by omega) (if_i z rfl)⟩
      rcases a4 with ⟨b1, b2, b3⟩ | b
      · exact Or.inl ⟨b1, b2, fun m' f' c1 c2 c3 c4 => b3 m' f' c1 (by omega) c3 c4⟩
      · exact Or.inr b
    · obtain ⟨more1, cur1, g1, g2⟩ := fire (F_X6_goBesides_b10 F ld ag2 fu) m (by omega) NN 0 more cur (by omega) hF.1 (NN_gt (by omega)) ⟨a1, a2, a3, by
        rcases a4 with ⟨b1, b2, b3⟩ | b
        · exact Or.inl ⟨b1, b2, fun m' f' c1 c2 c3 c4 c5 => b3 m' f' c1 (by omega) c3 c4⟩
        · exact Or.inr b⟩
      obtain ⟨d1, d2, d3, d4⟩ := g1
      obtain ⟨more', cur', k1, k2⟩ := ih (m + 1) more1 cur1 (by omega) (by omega) (by omega) ⟨d1, d2, d3, by
        rcases d4 with ⟨b1, b2, b3⟩ | b
        · exact Or.inl ⟨b1, b2, fun m' f' c1 c2 c3 c4 => b3 m' f' c1 (by omega) c3 c4⟩
        · exact Or.inr b⟩
      exact ⟨more', cur', k1, G_i (by omega) (el_i z (g2.trans k2))⟩
theorem goBesides_ok {n F : Int} {ld c0 : Nat → Int} (hn : 1 ≤ n ∧ n ≤ 300) (hF : 0 ≤ F ∧ F ≤ 8) (hl : ldB n F ld) (h0 : bel n c0 (fun _ => 2000)) (h1 : nnA n c0) :
    ∃ r, F_X6_goBesides n F ld c0 = some r ∧ (cEd n F ld r ∧ bel n r c0 ∧ nnA n r ∧ ∀ E, cEd n F ld E → bel n E c0 → bel n E r) := by
  have key : ∀ (fu : Nat) (c : Nat → Int), bel n c (fun _ => 2000) → nnA n c → si n.toNat c + 1 < fu → ∃ r, F_X6_goBesides_b2 F ld fu n 1 c = some r ∧ (cEd n F ld r ∧ bel n r c ∧ nnA n r ∧ ∀ E, cEd n F ld E → bel n E c → bel n E r) := by
    intro fu
    induction fu with
    | zero => intro c a1 a2 a3; exact absurd a3 (by have := si_nn0 (a := c) n.toNat (fun i hi => by have := a2 (i : Int) (by omega) (by omega); rw [Int.toNat_natCast] at this; exact this); omega)
    | succ fu ih =>
      intro c a1 a2 a3
      have s0 : ∀ x, nnA n x → 0 ≤ si n.toNat x := fun x hx => si_nn0 n.toNat (fun i hi => by have := hx (i : Int) (by omega) (by omega); rw [Int.toNat_natCast] at this; exact this)
      show ∃ r, F_X6_goBesides_b2_body F ld (F_X6_goBesides_b2 F ld fu) n 1 c = some r ∧ _
      unfold F_X6_goBesides_b2_body
      refine G_e (by omega) (el_e (by omega) ?_)
      obtain ⟨more', cur', ⟨b1, b2, b3, b4⟩, g2⟩ := gb_pass hn hF hl a1 (F_X6_goBesides_b2 F ld fu) NN 0 0 c (by omega) (by omega) (NN_gt (by omega)) ⟨bel_rf, a2, fun _ _ h => h, Or.inl ⟨rfl, rfl, fun m' f' q1 q2 => absurd q2 (by omega)⟩⟩
      rw [g2]
      rcases b4 with ⟨d1, d2, d3⟩ | ⟨d1, d2⟩
      · have := s0 c a2
        obtain ⟨j, rfl⟩ : ∃ j, fu = j + 1 := ⟨fu - 1, by omega⟩
        refine ⟨cur', ?_, ?_⟩
        · show F_X6_goBesides_b2_body F ld (F_X6_goBesides_b2 F ld j) n more' cur' = _
          unfold F_X6_goBesides_b2_body
          exact G_i (by omega) (if_i d1 rfl)
        · rw [d2]
          exact ⟨d3, bel_rf, a2, fun _ _ h => h⟩
      · subst d1
        obtain ⟨r, r1, r2, r3, r4, r5⟩ := ih cur' (bel_tr b1 a1) b2 (by omega)
        exact ⟨r, r1, r2, bel_tr r3 b1, r4, fun E e1 e2 => r5 E e1 (b3 E e1 e2)⟩
  unfold F_X6_goBesides
  refine key NN c0 h0 h1 ?_
  have := si_nn (a := c0) (M := 2000) n.toNat (fun i hi => by
    have e1 := h0 (i : Int) (by omega) (by omega)
    have e2 := h1 (i : Int) (by omega) (by omega)
    rw [Int.toNat_natCast] at e1 e2
    exact ⟨e2, e1⟩)
  have := NN_gt (z := 1000000) (by omega)
  omega
/-! the class -/
theorem offer_ok {n F m cost : Int} {ld ta cur : Nat → Int} (hn : 1 ≤ n ∧ n ≤ 300) (hF : 0 ≤ F ∧ F ≤ 8) (hl : ldB n F ld) (hT : ∀ m f : Int, 0 ≤ m → m < n → 0 ≤ f → f < F → F_X1_target m f ta = some (ld (8 * m + f).toNat)) (hm : 0 ≤ m ∧ m < n) (hc : 0 ≤ cost ∧ cost ≤ 10) (hb : bel n cur (fun _ => 2000)) (hnn : nnA n cur) (hcm : cur m.toNat = cost) :
    ∃ r, F_X2_offerBesides m (cost + 1) F ta cur = some r ∧ ((∀ x : Int, 0 ≤ x → x < n → r x.toNat ≤ cur x.toNat ∧ (r x.toNat = cur x.toNat ∨ r x.toNat = cost + 1)) ∧ (∀ E, cEd n F ld E → bel n E cur → bel n E r) ∧ ∀ f : Int, 0 ≤ f → f < F → okE ld r m f) := by
  have key : ∀ (fu : Nat) (f : Int) (r : Nat → Int), 0 ≤ f → f ≤ F → F - f < fu → (∀ x : Int, 0 ≤ x → x < n → r x.toNat ≤ cur x.toNat ∧ (r x.toNat = cur x.toNat ∨ r x.toNat = cost + 1)) → (∀ E, cEd n F ld E → bel n E cur → bel n E r) → (∀ f' : Int, 0 ≤ f' → f' < f → okE ld r m f') → ∃ r', F_X2_offerBesides_b2 F ta fu m (cost + 1) f r = some r' ∧ ((∀ x : Int, 0 ≤ x → x < n → r' x.toNat ≤ cur x.toNat ∧ (r' x.toNat = cur x.toNat ∨ r' x.toNat = cost + 1)) ∧ (∀ E, cEd n F ld E → bel n E cur → bel n E r') ∧ ∀ f : Int, 0 ≤ f → f < F → okE ld r' m f) := by
    intro fu
    induction fu with
    | zero => intro f r h1 h2 h3; exact absurd h3 (by omega)
    | succ fu ih =>
      intro f r h1 h2 h3 h4 h5 h6
      show ∃ r', F_X2_offerBesides_b2_body F ta (F_X2_offerBesides_b2 F ta fu) m (cost + 1) f r = some r' ∧ _
      unfold F_X2_offerBesides_b2_body
      refine G_e (by omega) ?_
      by_cases z : F ≤ f
      · exact if_e z (so_e ⟨h4, h5, fun f' a b => h6 f' a (by omega)⟩)
      · obtain ⟨t1, t2⟩ := hl m f hm.1 hm.2 h1 (by omega)
        refine el_e z (Ob_e (hT m f hm.1 hm.2 h1 (by omega)) (G_e (by omega) ?_))
        by_cases y : ld (8 * m + f).toNat < 0
        · refine if_e y (Bd_e (ih (f + 1) r (by omega) (by omega) (by omega) h4 h5 (fun f' a b => ?_)))
          by_cases q : f' = f
          · rw [q]; exact fun w => absurd (by omega) w
          · exact h6 f' a (by omega)
        · refine el_e y (G_e (by omega) (el_e (by omega) (G_e (by omega) (Bd_e ?_))))
          have q1 := h4 (ld (8 * m + f).toNat) (by omega) t2
          have q2 := hb (ld (8 * m + f).toNat) (by omega) t2
          have q3 := hnn (ld (8 * m + f).toNat) (by omega) t2
          have q4 := h4 m hm.1 hm.2
          dsimp only at q2
          have rm : r m.toNat = cost := by omega
          -- the new value
          have fin : ∀ v : Int, (v = r (ld (8 * m + f).toNat).toNat ∨ v = cost + 1) → v ≤ r (ld (8 * m + f).toNat).toNat → v ≤ cost + 1 → ∃ r', F_X2_offerBesides_b55 F ta (F_X2_offerBesides_b2 F ta fu) m (cost + 1) f (uI r (ld (8 * m + f).toNat).toNat v) = some r' ∧ ((∀ x : Int, 0 ≤ x → x < n → r' x.toNat ≤ cur x.toNat ∧ (r' x.toNat = cur x.toNat ∨ r' x.toNat = cost + 1)) ∧ (∀ E, cEd n F ld E → bel n E cur → bel n E r') ∧ ∀ f : Int, 0 ≤ f → f < F → okE ld r' m f) := fun v v1 v2 v3 => by
            refine Bd_e (ih (f + 1) _ (by omega) (by omega) (by omega) (fun x x1 x2 => ?_) (fun E e1 e2 => bel_low (h5 E e1 e2) ?_) (fun f' a b => ?_))
            · by_cases q : x.toNat = (ld (8 * m + f).toNat).toNat
              · rw [q, uI_same]
                omega
              · rw [uI_ne _ _ q]; exact h4 x x1 x2
            · have w1 := h5 E e1 e2 (ld (8 * m + f).toNat) (by omega) t2
              have w2 := h5 E e1 e2 m hm.1 hm.2
              have w3 := e1 m f hm.1 hm.2 h1 (by omega) (by omega)
              omega
            · have um : uI r (ld (8 * m + f).toNat).toNat v m.toNat = cost := by
                by_cases q : m.toNat = (ld (8 * m + f).toNat).toNat
                · rw [q, uI_same]; rw [q] at rm; omega
                · rw [uI_ne _ _ q]; exact rm
              intro w
              rw [um]
              by_cases q : (ld (8 * m + f').toNat).toNat = (ld (8 * m + f).toNat).toNat
              · rw [q, uI_same]; exact v3
              · rw [uI_ne _ _ q]
                by_cases p : f' = f
                · rw [p] at q; exact absurd rfl q
                · have := h6 f' a (by omega) w
                  omega
          unfold F_J9_min_7cf53
          by_cases x : cost + 1 < r (ld (8 * m + f).toNat).toNat
          · exact Ob_e (G_i (by omega) (if_i x rfl)) (G_e (by omega) (Bd_e (fin (cost + 1) (Or.inr rfl) (by omega) (by omega))))
          · exact Ob_e (G_i (by omega) (el_i x rfl)) (G_e (by omega) (Bd_e (fin _ (Or.inl rfl) (Int.le_refl _) (by omega))))
  unfold F_X2_offerBesides
  exact key NN 0 cur (by omega) hF.1 (NN_gt (by omega)) (fun x _ _ => ⟨Int.le_refl _, Or.inl rfl⟩) (fun _ _ h => h) (fun f' a b => absurd b (by omega))
def dbI (n F : Int) (ld c0 cur : Nat → Int) : Prop := bel n cur c0 ∧ nnA n cur ∧ ∀ E, cEd n F ld E → bel n E c0 → bel n E cur
theorem doBesides_ok {n F L : Int} {ld ta c0 : Nat → Int} (hn : 1 ≤ n ∧ n ≤ 300) (hF : 0 ≤ F ∧ F ≤ 8) (hL : 0 ≤ L ∧ L ≤ 10) (hl : ldB n F ld) (hT : ∀ m f : Int, 0 ≤ m → m < n → 0 ≤ f → f < F → F_X1_target m f ta = some (ld (8 * m + f).toNat)) (h0 : bel n c0 (fun _ => 2000)) (h1 : nnA n c0) :
    ∃ r, F_X2_doBesides F ta n L c0 = some r ∧ (dbI n F ld c0 r ∧ ∀ m f : Int, 0 ≤ m → m < n → 0 ≤ f → f < F → r m.toNat < L → okE ld r m f) := by
  have pass : ∀ (ag2 : Int → (Nat → Int) → Option (Nat → Int)) (cost : Int), 0 ≤ cost ∧ cost < L → ∀ (fu : Nat) (m : Int) (cur : Nat → Int), 0 ≤ m → m ≤ n → n - m < fu → dbI n F ld c0 cur → (∀ m' f : Int, 0 ≤ m' → m' < n → 0 ≤ f → f < F → (cur m'.toNat < cost ∨ (cur m'.toNat = cost ∧ m' < m)) → okE ld cur m' f) → ∃ r, (dbI n F ld c0 r ∧ ∀ m' f : Int, 0 ≤ m' → m' < n → 0 ≤ f → f < F → r m'.toNat < cost + 1 → okE ld r m' f) ∧ F_X2_doBesides_b12 F ta n L ag2 fu cost m cur = ag2 (cost + 1) r := by
    intro ag2 cost hc fu
    induction fu with
    | zero => intro m cur q1 q2 q3; exact absurd q3 (by omega)
    | succ fu ih =>
      intro m cur q1 q2 q3 q4 q5
      show ∃ r, _ ∧ F_X2_doBesides_b12_body F ta n L ag2 (F_X2_doBesides_b12 F ta n L ag2 fu) cost m cur = _
      unfold F_X2_doBesides_b12_body
      by_cases z : n ≤ m
      · exact ⟨cur, ⟨q4, fun m' f a b c d e => q5 m' f a b c d (by omega)⟩, G_i (by omega) (if_i z (Bd_i rfl))⟩
      · have cb := bel_tr q4.1 h0
        have b1 := cb m q1 (by omega)
        have b2 := q4.2.1 m q1 (by omega)
        dsimp only at b1
        by_cases y : cur m.toNat = cost
        · obtain ⟨r, r1, r2, r3, r4⟩ := offer_ok (cur := cur) (cost := cost) hn hF hl hT ⟨q1, by omega⟩ (by omega) cb q4.2.1 y
          have hr : dbI n F ld c0 r := ⟨fun x x1 x2 => Int.le_trans (r2 x x1 x2).1 (q4.1 x x1 x2), fun x x1 x2 => by
            have := r2 x x1 x2
            have := q4.2.1 x x1 x2
            omega, fun E e1 e2 => r3 E e1 (q4.2.2 E e1 e2)⟩
          obtain ⟨r', k1, k2⟩ := ih (m + 1) r (by omega) (by omega) (by omega) hr (fun m' f a b c d e => by
            by_cases t : m' = m
            · rw [t]; exact r4 f c d
            · have w := r2 m' a b
              have w2 : okE ld cur m' f := q5 m' f a b c d (by omega)
              intro w3
              have w4 := w2 w3
              have w5 := hl m' f a b c d
              have w6 := r2 (ld (8 * m' + f).toNat) (by omega) w5.2
              omega)
          exact ⟨r', k1, G_i (by omega) (el_i z (G_i (by omega) (Bd_i (G_i (by omega) (if_i y (Ob_i r1 (Bd_i k2)))))))⟩
        · obtain ⟨r', k1, k2⟩ := ih (m + 1) cur (by omega) (by omega) (by omega) q4 (fun m' f a b c d e => q5 m' f a b c d (by
            by_cases t : m' = m
            · rw [t] at e ⊢; omega
            · omega))
          exact ⟨r', k1, G_i (by omega) (el_i z (G_i (by omega) (Bd_i (G_i (by omega) (el_i y (Bd_i k2))))))⟩
  have key : ∀ (fu : Nat) (cost : Int) (cur : Nat → Int), 0 ≤ cost → cost ≤ L → L - cost < fu → dbI n F ld c0 cur → (∀ m f : Int, 0 ≤ m → m < n → 0 ≤ f → f < F → cur m.toNat < cost → okE ld cur m f) → ∃ r, F_X2_doBesides_b2 F ta n L fu cost cur = some r ∧ (dbI n F ld c0 r ∧ ∀ m f : Int, 0 ≤ m → m < n → 0 ≤ f → f < F → r m.toNat < L → okE ld r m f) := by
    intro fu
    induction fu with
    | zero => intro cost cur q1 q2 q3; exact absurd q3 (by omega)
    | succ fu ih =>
      intro cost cur q1 q2 q3 q4 q5
      show ∃ r, F_X2_doBesides_b2_body F ta n L (F_X2_doBesides_b2 F ta n L fu) cost cur = some r ∧ _
      unfold F_X2_doBesides_b2_body
      refine G_e (by omega) ?_
      by_cases z : L ≤ cost
      · exact if_e z (so_e ⟨q4, fun m f a b c d e => q5 m f a b c d (by omega)⟩)
      · obtain ⟨r, ⟨r1, r2⟩, r3⟩ := pass (F_X2_doBesides_b2 F ta n L fu) cost (by omega) NN 0 cur (by omega) (by omega) (NN_gt (by omega)) q4 (fun m' f a b c d e => q5 m' f a b c d (by omega))
        refine el_e z ?_
        rw [r3]
        exact ih (cost + 1) r (by omega) (by omega) (by omega) r1 r2
  unfold F_X2_doBesides
  exact key NN 0 c0 (by omega) hL.1 (NN_gt (by omega)) ⟨bel_rf, h1, fun _ _ h => h⟩ (fun m f a b c d e => absurd e (by have := h1 m a b; omega))
/-- the same up to the log's length, both above it otherwise -/
def CE (n L : Int) (c d : Nat → Int) : Prop := ∀ m : Int, 0 ≤ m → m < n → c m.toNat = d m.toNat ∨ (L < c m.toNat ∧ L < d m.toNat)
theorem besides_CE {n F L : Int} {ld c d C D : Nat → Int} (hl : ldB n F ld) (h : CE n L c d) (hC : dbI n F ld c C) (hC2 : ∀ m f : Int, 0 ≤ m → m < n → 0 ≤ f → f < F → C m.toNat < L → okE ld C m f) (hD : cEd n F ld D) (hD2 : bel n D d) (hD3 : ∀ E, cEd n F ld E → bel n E d → bel n E D) : CE n L C D := by
  have e1 : bel n (fun i => if C i ≤ L then C i else L + 1) D := hD3 _ (fun m f a b c1 d1 w => by
    have t := hl m f a b c1 d1
    by_cases q : C m.toNat < L
    · have := hC2 m f a b c1 d1 q w
      rw [if_pos (by omega : C m.toNat ≤ L)]
      split <;> omega
    · split <;> split <;> omega) (fun m a b => by
    have q1 := hC.1 m a b
    have q2 := h m a b
    split <;> omega)
  have e2 : bel n (fun i => if D i ≤ L then D i else L + 1) C := hC.2.2 _ (fun m f a b c1 d1 w => by
    have t := hl m f a b c1 d1
    have := hD m f a b c1 d1 w
    split <;> split <;> omega) (fun m a b => by
    have q1 := hD2 m a b
    have q2 := h m a b
    split <;> omega)
  intro m a b
  have w1 := e1 m a b
  have w2 := e2 m a b
  dsimp only at w1 w2
  split at w1 <;> split at w2 <;> omega
