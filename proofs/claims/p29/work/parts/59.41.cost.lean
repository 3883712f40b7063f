/-! the call cost -/
theorem CE_left {n L t x : Int} {a b : Nat → Int} (h : CE n L a b) (hx : x = b t.toNat ∨ (L < x ∧ L < b t.toNat)) : CE n L (uI a t.toNat x) b := fun m m1 m2 => by
  by_cases q : m.toNat = t.toNat
  · rw [q, uI_same]; exact hx
  · rw [uI_ne _ _ q]; exact h m m1 m2
theorem CE_both {n L t x y : Int} {a b : Nat → Int} (h : CE n L a b) (hx : x = y ∨ (L < x ∧ L < y)) : CE n L (uI a t.toNat x) (uI b t.toNat y) := fun m m1 m2 => by
  by_cases q : m.toNat = t.toNat
  · rw [q, uI_same, uI_same]; exact hx
  · rw [uI_ne _ _ q, uI_ne _ _ q]; exact h m m1 m2
theorem goPast_ok {n F L f M : Int} {ld ta c d fur0 nxt0 : Nat → Int} (hn : 1 ≤ n ∧ n ≤ 300) (hF : 0 ≤ F ∧ F ≤ 8) (hf : 0 ≤ f ∧ f < F) (hM : M ≤ 1900) (hl : ldB n F ld) (hT : ∀ m f : Int, 0 ≤ m → m < n → 0 ≤ f → f < F → F_X1_target m f ta = some (ld (8 * m + f).toNat)) (h : CE n L c d) (c1 : bel n c (fun _ => M)) (c2 : nnA n c) (d1 : bel n d (fun _ => M)) (d2 : nnA n d) :
    ∃ r q, F_X2_goPast f ta n c fur0 = some r ∧ F_X6_goOn n f ld d nxt0 = some q ∧ CE n L r.1 q.1 ∧ bel n r.1 (fun _ => M + 1) ∧ nnA n r.1 ∧ bel n q.1 (fun _ => M + 1) ∧ nnA n q.1 ∧ q.1 0 ≤ d 0 + 1 := by
  -- the first loops
  have cl1 : ∀ (fu : Nat) (m : Int) (a : Nat → Int), 0 ≤ m → m ≤ n → n - m < fu → (∀ x : Int, 0 ≤ x → x < m → a x.toNat = c x.toNat + 1) → ∃ a', (∀ x : Int, 0 ≤ x → x < n → a' x.toNat = c x.toNat + 1) ∧ F_X2_goPast_b2 ta n fu f m c a = F_X2_goPast_b32 ta n NN f 0 c a' := by
    intro fu
    induction fu with
    | zero => intro m a q1 q2 q3; exact absurd q3 (by omega)
    | succ fu ih =>
      intro m a q1 q2 q3 q4
      show ∃ a', _ ∧ F_X2_goPast_b2_body ta n (F_X2_goPast_b2 ta n fu) f m c a = _
      unfold F_X2_goPast_b2_body
      by_cases z : n ≤ m
      · exact ⟨a, fun x a b => q4 x a (by omega), G_i (by omega) (if_i z rfl)⟩
      · obtain ⟨a', k1, k2⟩ := ih (m + 1) (uI a m.toNat (c m.toNat + 1)) (by omega) (by omega) (by omega) (fun x a b => by
          by_cases q : x.toNat = m.toNat
          · rw [q, uI_same]
          · rw [uI_ne _ _ q]; exact q4 x a (by omega))
        exact ⟨a', k1, G_i (by omega) (el_i z (G_i (by omega) (Bd_i (Bd_i (G_i (by omega) (Bd_i (Bd_i k2)))))))⟩
  have rf1 : ∀ (fu : Nat) (m : Int) (a : Nat → Int), 0 ≤ m → m ≤ n → n - m < fu → (∀ x : Int, 0 ≤ x → x < m → a x.toNat = d x.toNat + 1) → ∃ a', (∀ x : Int, 0 ≤ x → x < n → a' x.toNat = d x.toNat + 1) ∧ F_X6_goOn_b2 ld fu n f m d a = F_X6_goOn_b29 ld NN n f 0 d a' := by
    intro fu
    induction fu with
    | zero => intro m a q1 q2 q3; exact absurd q3 (by omega)
    | succ fu ih =>
      intro m a q1 q2 q3 q4
      show ∃ a', _ ∧ F_X6_goOn_b2_body ld (F_X6_goOn_b2 ld fu) n f m d a = _
      unfold F_X6_goOn_b2_body
      by_cases z : n ≤ m
      · exact ⟨a, fun x a b => q4 x a (by omega), G_i (by omega) (if_i z rfl)⟩
      · obtain ⟨a', k1, k2⟩ := ih (m + 1) (uI a m.toNat (d m.toNat + 1)) (by omega) (by omega) (by omega) (fun x a b => by
          by_cases q : x.toNat = m.toNat
          · rw [q, uI_same]
          · rw [uI_ne _ _ q]; exact q4 x a (by omega))
        exact ⟨a', k1, G_i (by omega) (el_i z (G_i (by omega) (Bd_i (Bd_i (G_i (by omega) (Bd_i (Bd_i k2)))))))⟩
  -- the copy
  have rf3 : ∀ (nx : Nat → Int) (fu : Nat) (m : Int) (a : Nat → Int), 0 ≤ m → m ≤ n → n - m < fu → (∀ x : Int, 0 ≤ x → x < m → a x.toNat = nx x.toNat) → ∃ a', (∀ x : Int, 0 ≤ x → x < n → a' x.toNat = nx x.toNat) ∧ F_X6_goOn_b90 ld fu n m a nx = some (a', nx) := by
    intro nx fu
    induction fu with
    | zero => intro m a q1 q2 q3; exact absurd q3 (by omega)
    | succ fu ih =>
      intro m a q1 q2 q3 q4
      show ∃ a', _ ∧ F_X6_goOn_b90_body ld (F_X6_goOn_b90 ld fu) n m a nx = _
      unfold F_X6_goOn_b90_body
      by_cases z : n ≤ m
      · exact ⟨a, fun x a b => q4 x a (by omega), G_i (by omega) (if_i z rfl)⟩
      · obtain ⟨a', k1, k2⟩ := ih (m + 1) (uI a m.toNat (nx m.toNat)) (by omega) (by omega) (by omega) (fun x a b => by
          by_cases q : x.toNat = m.toNat
          · rw [q, uI_same]
          · rw [uI_ne _ _ q]; exact q4 x a (by omega))
        exact ⟨a', k1, G_i (by omega) (el_i z (G_i (by omega) (Bd_i (G_i (by omega) (Bd_i (Bd_i k2))))))⟩
  -- both, firing by firing
  have both : ∀ (fu fm : Nat) (m : Int) (a b : Nat → Int), 0 ≤ m → m ≤ n → n - m < fu → n - m < fm → CE n L a b → bel n a (fun i => c i + 1) → nnA n a → bel n b (fun i => d i + 1) → nnA n b → ∃ a' b', (CE n L a' b' ∧ bel n a' (fun i => c i + 1) ∧ nnA n a' ∧ bel n b' (fun i => d i + 1) ∧ nnA n b') ∧ F_X2_goPast_b32 ta n fu f m c a = some (uC a' c 300, a') ∧ F_X6_goOn_b29 ld fm n f m d b = F_X6_goOn_b90 ld NN n 0 d b' := by
    intro fu
    induction fu with
    | zero => intro fm m a b q1 q2 q3; exact absurd q3 (by omega)
    | succ fu ih =>
      intro fm m a b q1 q2 q3 q4 i1 i2 i3 i4 i5
      obtain ⟨fm, rfl⟩ : ∃ j, fm = j + 1 := ⟨fm - 1, by omega⟩
      show ∃ a' b', _ ∧ F_X2_goPast_b32_body ta n (F_X2_goPast_b32 ta n fu) f m c a = _ ∧ F_X6_goOn_b29_body ld (F_X6_goOn_b29 ld fm) n f m d b = _
      unfold F_X2_goPast_b32_body F_X6_goOn_b29_body
      by_cases z : n ≤ m
      · exact ⟨a, b, ⟨i1, i2, i3, i4, i5⟩, G_i (by omega) (if_i z rfl), G_i (by omega) (if_i z rfl)⟩
      · obtain ⟨t1, t2⟩ := hl m f q1 (by omega) hf.1 hf.2
        have T := hT m f q1 (by omega) hf.1 hf.2
        have cm := c2 m q1 (by omega)
        have cm2 := c1 m q1 (by omega)
        have dm := d2 m q1 (by omega)
        have dm2 := d1 m q1 (by omega)
        have cd := h m q1 (by omega)
        dsimp only at cm2 dm2
        by_cases y : ld (8 * m + f).toNat = -1
        · obtain ⟨a', b', k1, k2, k3⟩ := ih fm (m + 1) a b (by omega) (by omega) (by omega) (by omega) i1 i2 i3 i4 i5
          exact ⟨a', b', k1, G_i (by omega) (el_i z (Ob_i T (G_i (by omega) (if_i (by omega) k2)))), G_i (by omega) (el_i z (Bd_i (G_i (by omega) (Bd_i (G_i (by omega) (if_i y k3))))))⟩
        · generalize hto : ld (8 * m + f).toNat = to at t1 t2 T y ⊢
          have at1 := i2 to (by omega) t2
          have at2 := i3 to (by omega) t2
          have bt1 := i4 to (by omega) t2
          have bt2 := i5 to (by omega) t2
          have cto := c1 to (by omega) t2
          have dto := d1 to (by omega) t2
          have ab := i1 to (by omega) t2
          dsimp only at at1 bt1 cto dto
          have pc : ∀ v : Int, 0 ≤ v → v ≤ a to.toNat → bel n (uI a to.toNat v) (fun i => c i + 1) ∧ nnA n (uI a to.toNat v) := fun v v1 v2 => ⟨bel_upd i2 (by omega), nnA_upd i3 v1⟩
          have pd : ∀ v : Int, 0 ≤ v → v ≤ b to.toNat → bel n (uI b to.toNat v) (fun i => d i + 1) ∧ nnA n (uI b to.toNat v) := fun v v1 v2 => ⟨bel_upd i4 (by omega), nnA_upd i5 v1⟩
          -- the class's step
          have cs : ∀ (v : Int) (a' : Nat → Int), (v = if c m.toNat < a to.toNat then c m.toNat else a to.toNat) → F_X2_goPast_b32 ta n fu f (m + 1) c (uI a to.toNat v) = some (uC a' c 300, a') → F_X2_goPast_b32_body ta n (F_X2_goPast_b32 ta n fu) f m c a = some (uC a' c 300, a') := fun v a' hv hk => by
            unfold F_X2_goPast_b32_body
            refine G_i (by omega) (el_i z (Ob_i T (G_i (by omega) (el_i (by omega) (G_i (by omega) (el_i (by omega) (G_i (by omega) (Bd_i (G_i (by omega) (Bd_i ?_))))))))))
            unfold F_J9_min_7cf53
            by_cases x : c m.toNat < a to.toNat
            · rw [if_pos x] at hv
              subst hv
              exact Ob_i (G_i (by omega) (if_i x rfl)) (G_i (by omega) (Bd_i (Bd_i hk)))
            · rw [if_neg x] at hv
              subst hv
              exact Ob_i (G_i (by omega) (el_i x rfl)) (G_i (by omega) (Bd_i (Bd_i hk)))
          obtain ⟨v, hv⟩ : ∃ v : Int, v = if c m.toNat < a to.toNat then c m.toNat else a to.toNat := ⟨_, rfl⟩
          have vb : 0 ≤ v ∧ v ≤ a to.toNat := by split at hv <;> omega
          by_cases x : b to.toNat ≤ d m.toNat
          · obtain ⟨a', b', k1, k2, k3⟩ := ih fm (m + 1) (uI a to.toNat v) b (by omega) (by omega) (by omega) (by omega) (CE_left i1 (by split at hv <;> omega)) (pc v vb.1 vb.2).1 (pc v vb.1 vb.2).2 i4 i5
            exact ⟨a', b', k1, cs v a' hv k2, G_i (by omega) (el_i z (Bd_i (G_i (by omega) (Bd_i (by rw [hto]; exact G_i (by omega) (el_i y (G_i (by omega) (Bd_i (G_i (by omega) (Bd_i (G_i (by omega) (if_i x k3)))))))))))) ⟩
          · obtain ⟨a', b', k1, k2, k3⟩ := ih fm (m + 1) (uI a to.toNat v) (uI b to.toNat (d m.toNat)) (by omega) (by omega) (by omega) (by omega) (CE_both i1 (by split at hv <;> omega)) (pc v vb.1 vb.2).1 (pc v vb.1 vb.2).2 (pd _ dm (by omega)).1 (pd _ dm (by omega)).2
            exact ⟨a', b', k1, cs v a' hv k2, G_i (by omega) (el_i z (Bd_i (G_i (by omega) (Bd_i (by rw [hto]; exact G_i (by omega) (el_i y (G_i (by omega) (Bd_i (G_i (by omega) (Bd_i (G_i (by omega) (el_i x (G_i (by omega) (Bd_i (G_i (by omega) (Bd_i k3))))))))))))))))⟩
  obtain ⟨fur, f1, f2⟩ := cl1 NN 0 fur0 (by omega) (by omega) (NN_gt (by omega)) (fun x a b => absurd b (by omega))
  obtain ⟨nxt, n1, n2⟩ := rf1 NN 0 nxt0 (by omega) (by omega) (NN_gt (by omega)) (fun x a b => absurd b (by omega))
  obtain ⟨a', b', ⟨k1, k2, k3, k4, k5⟩, g1, g2⟩ := both NN NN 0 fur nxt (by omega) (by omega) (NN_gt (by omega)) (NN_gt (by omega)) (fun m m1 m2 => by
    have := h m m1 m2
    rw [f1 m m1 m2, n1 m m1 m2]
    omega) (fun m m1 m2 => by rw [f1 m m1 m2]; exact Int.le_refl _) (fun m m1 m2 => by rw [f1 m m1 m2]; have := c2 m m1 m2; omega) (fun m m1 m2 => by rw [n1 m m1 m2]; exact Int.le_refl _) (fun m m1 m2 => by rw [n1 m m1 m2]; have := d2 m m1 m2; omega)
  obtain ⟨q, q1, q2⟩ := rf3 b' NN 0 d (by omega) (by omega) (NN_gt (by omega)) (fun x a b => absurd b (by omega))
  have eu : ∀ m : Int, 0 ≤ m → m < n → uC a' c 300 m.toNat = a' m.toNat := fun m m1 m2 => if_pos (by omega)
  refine ⟨(uC a' c 300, a'), (q, b'), ?_, ?_, fun m m1 m2 => ?_, fun m m1 m2 => ?_, fun m m1 m2 => ?_, fun m m1 m2 => ?_, fun m m1 m2 => ?_, ?_⟩
  · unfold F_X2_goPast
    rw [f2]; exact g1
  · unfold F_X6_goOn
    rw [n2, g2]; exact q2
  · dsimp only
    rw [eu m m1 m2, q1 m m1 m2]; exact k1 m m1 m2
  · dsimp only
    have w1 := k2 m m1 m2
    have w2 := c1 m m1 m2
    rw [eu m m1 m2]
    dsimp only at w1 w2
    omega
  · dsimp only
    rw [eu m m1 m2]; exact k3 m m1 m2
  · dsimp only
    have w1 := k4 m m1 m2
    have w2 := d1 m m1 m2
    rw [q1 m m1 m2]
    dsimp only at w1 w2
    omega
  · dsimp only
    rw [q1 m m1 m2]; exact k5 m m1 m2
  · have w1 := k4 0 (by omega) (by omega)
    have w2 := q1 0 (by omega) (by omega)
    have w3 : q 0 = b' 0 := w2
    have w4 : b' 0 ≤ d 0 + 1 := w1
    dsimp only
    omega
theorem fill3_ok {a0 : Nat → Int} : ∃ r, F_J7_fill_53178 1000 300 a0 = some r ∧ ∀ s : Nat, s < 300 → r s = 1000 := by
  have key : ∀ (n : Nat) (i : Int) (a : Nat → Int), 0 ≤ i → i ≤ 300 → 300 - i < n → (∀ s : Nat, s < i → a s = 1000) → ∃ r, F_J7_fill_53178_b5 300 n 1000 i 300 a = some r ∧ ∀ s : Nat, s < 300 → r s = 1000 := by
    intro n
    induction n with
    | zero => intro i a h1 h2 h3; exact absurd h3 (by omega)
    | succ n ih =>
      intro i a h1 h2 h3 h4
      show ∃ r, F_J7_fill_53178_b5_body 300 (F_J7_fill_53178_b5 300 n) 1000 i 300 a = some r ∧ _
      unfold F_J7_fill_53178_b5_body
      refine G_e (by omega) ?_
      by_cases c : 300 ≤ i
      · exact if_e c (so_e (fun s hs => h4 s (by omega)))
      · refine el_e c (G_e (by omega) (Bd_e (Bd_e (ih (i + 1) _ (by omega) (by omega) (by omega) (fun s hs => ?_)))))
        by_cases q : s = i.toNat
        · rw [q, uI_same]
        · rw [uI_ne _ _ q]; exact h4 s (by omega)
  unfold F_J7_fill_53178
  exact Bd_e (key NN 0 a0 (by omega) (by omega) (NN_gt (by omega)) (fun s hs => absurd hs (by omega)))
theorem costs_ok {P F n L th : Int} {ld ta c fur d nxt en lg tok w mk wh by_ : Nat → Int} (hn : 1 ≤ n ∧ n ≤ 300) (hF : 0 ≤ F ∧ F ≤ 8) (hL : 0 ≤ L ∧ L ≤ 10) (he : ∀ j : Nat, (j : Int) < L → en j = lg j ∧ 0 ≤ en j ∧ en j < F) (hl : ldB n F ld) (hT : ∀ m f : Int, 0 ≤ m → m < n → 0 ≤ f → f < F → F_X1_target m f ta = some (ld (8 * m + f).toNat)) :
    ∀ (fu fm : Nat) (i : Int) (c fur d nxt : Nat → Int), 0 ≤ i → i ≤ L → L - i < fu → L - i < fm → CE n L c d → bel n c (fun _ => 1000 + i) → nnA n c → bel n d (fun _ => 1000 + i) → nnA n d → d 0 ≤ i → ∃ rx rm, F_X2_leastCost_b36 F n ta L en fu i n c fur = some rx ∧ F_X6_cost_b42 P F L tok w lg fm n i th mk wh by_ ld d nxt = some rm ∧ rx.1 = rm.1 ∧ rm.2.1 = th ∧ (0 ≤ rx.1 ∧ rx.1 ≤ L) := by
  have least : ∀ (c fur d nxt : Nat → Int), CE n L c d → bel n c (fun _ => 2000) → nnA n c → bel n d (fun _ => 2000) → nnA n d → d 0 ≤ L → ∀ (fu fm : Nat) (m a b : Int), 0 ≤ m → m ≤ n → n - m < fu → n - m < fm → (a = b ∨ (L < a ∧ L < b)) → (1 ≤ m → a ≤ L) → (0 ≤ a ∧ a ≤ 1000) → (0 ≤ b ∧ b ≤ 1000) → ∃ v, F_X2_leastCost_b70 F n ta L en fu a m n c fur = some (v, n, c, fur) ∧ F_X6_cost_b92 P F L tok w lg fm n b m th mk wh by_ ld d nxt = some (v, th, mk, wh, by_, ld, d, nxt) ∧ (0 ≤ v ∧ v ≤ L) := by
    intro c fur d nxt h c1 c2 d1 d2 d0 fu
    induction fu with
    | zero => intro fm m a b q1 q2 q3; exact absurd q3 (by omega)
    | succ fu ih =>
      intro fm m a b q1 q2 q3 q4 q5 q6 q7 q8
      obtain ⟨fm, rfl⟩ : ∃ j, fm = j + 1 := ⟨fm - 1, by omega⟩
      show ∃ v, F_X2_leastCost_b70_body F n ta L en (F_X2_leastCost_b70 F n ta L en fu) a m n c fur = _ ∧ F_X6_cost_b92_body P F L tok w lg (F_X6_cost_b92 P F L tok w lg fm) n b m th mk wh by_ ld d nxt = _ ∧ _
      unfold F_X2_leastCost_b70_body F_X6_cost_b92_body F_X6_cost_b117
      by_cases z : n ≤ m
      · have hab : a = b := by
          have := q6 (by omega)
          omega
        refine ⟨a, G_i (by omega) (if_i z rfl), G_i (by omega) (if_i z ?_), by have := q6 (by omega); omega⟩
        rw [hab]
      · have e := h m q1 (by omega)
        have b1 := c1 m q1 (by omega)
        have b2 := c2 m q1 (by omega)
        have b3 := d1 m q1 (by omega)
        have b4 := d2 m q1 (by omega)
        dsimp only at b1 b3
        have z0 : m = 0 → d m.toNat ≤ L := fun q => by rw [q]; exact d0
        have cls : ∀ v, F_X2_leastCost_b70 F n ta L en fu (if c m.toNat < a then c m.toNat else a) (m + 1) n c fur = some (v, n, c, fur) → F_X2_leastCost_b70_body F n ta L en (F_X2_leastCost_b70 F n ta L en fu) a m n c fur = some (v, n, c, fur) := fun v hv => by
          unfold F_X2_leastCost_b70_body
          refine G_i (by omega) (el_i z (G_i (by omega) (Bd_i ?_)))
          unfold F_J9_min_7cf53
          by_cases x : c m.toNat < a
          · rw [if_pos x] at hv
            exact Ob_i (G_i (by omega) (if_i x rfl)) (Bd_i hv)
          · rw [if_neg x] at hv
            exact Ob_i (G_i (by omega) (el_i x rfl)) (Bd_i hv)
        by_cases y : b ≤ d m.toNat
        · obtain ⟨v, v1, v2, v3⟩ := ih fm (m + 1) (if c m.toNat < a then c m.toNat else a) b (by omega) (by omega) (by omega) (by omega) (by split <;> omega) (fun _ => by
            by_cases q : m = 0
            · have := z0 q; split <;> omega
            · have := q6 (by omega); split <;> omega) (by split <;> omega) q8
          exact ⟨v, cls v v1, G_i (by omega) (el_i z (G_i (by omega) (Bd_i (G_i (by omega) (if_i y (Bd_i v2)))))), v3⟩
        · obtain ⟨v, v1, v2, v3⟩ := ih fm (m + 1) (if c m.toNat < a then c m.toNat else a) (d m.toNat) (by omega) (by omega) (by omega) (by omega) (by split <;> omega) (fun _ => by
            by_cases q : m = 0
            · have := z0 q; split <;> omega
            · have := q6 (by omega); split <;> omega) (by split <;> omega) (by omega)
          exact ⟨v, cls v v1, G_i (by omega) (el_i z (G_i (by omega) (Bd_i (G_i (by omega) (el_i y (G_i (by omega) (Bd_i (Bd_i v2)))))))), v3⟩
  intro fu
  induction fu with
  | zero => intro fm i c fur d nxt q1 q2 q3; exact absurd q3 (by omega)
  | succ fu ih =>
    intro fm i c fur d nxt q1 q2 q3 q4 h c1 c2 d1 d2 d0
    obtain ⟨fm, rfl⟩ : ∃ j, fm = j + 1 := ⟨fm - 1, by omega⟩
    show ∃ rx rm, F_X2_leastCost_b36_body F n ta L en (F_X2_leastCost_b36 F n ta L en fu) i n c fur = some rx ∧ F_X6_cost_b42_body P F L tok w lg (F_X6_cost_b42 P F L tok w lg fm) n i th mk wh by_ ld d nxt = some rm ∧ _
    unfold F_X2_leastCost_b36_body F_X6_cost_b42_body F_X6_cost_b77 F_X6_cost_b89
    have cB : bel n c (fun _ => 2000) := bel_tr c1 (fun m _ _ => by omega)
    have dB : bel n d (fun _ => 2000) := bel_tr d1 (fun m _ _ => by omega)
    by_cases z : L ≤ i
    · obtain ⟨v, v1, v2, v3⟩ := least c fur d nxt h cB c2 dB d2 (by omega) NN NN 0 1000 1000 (by omega) (by omega) (NN_gt (by omega)) (NN_gt (by omega)) (Or.inl rfl) (fun q => absurd q (by omega)) (by omega) (by omega)
      exact ⟨_, _, G_i (by omega) (if_i z v1), G_i (by omega) (if_i z (G_i (by omega) (el_i (by omega) v2))), rfl, rfl, v3⟩
    · obtain ⟨e1, e2, e3⟩ := he i.toNat (by omega)
      obtain ⟨C, C1, C2, C3⟩ := doBesides_ok (L := L) hn hF hL hl hT cB c2
      obtain ⟨D, D1, D2, D3, D4, D5⟩ := goBesides_ok hn hF hl dB d2
      have hCD := besides_CE hl h C2 C3 D2 D3 D5
      obtain ⟨r, q, g1, g2, g3, g4, g5, g6, g7, g8⟩ := goPast_ok (f := en i.toNat) (M := 1000 + i) (fur0 := fur) (nxt0 := nxt) hn hF ⟨e2, e3⟩ (by omega) hl hT hCD (bel_tr C2.1 c1) C2.2.1 (bel_tr D3 d1) D4
      have w1 := D3 0 (by omega) (by omega)
      have w2 : D 0 ≤ d 0 := w1
      obtain ⟨rx, rm, k1, k2, k3⟩ := ih fm (i + 1) r.1 r.2 q.1 q.2 (by omega) (by omega) (by omega) (by omega) g3 (bel_tr g4 (fun m _ _ => by omega)) g5 (bel_tr g6 (fun m _ _ => by omega)) g7 (by omega)
      refine ⟨rx, rm, G_i (by omega) (el_i z (Ob_i C1 (G_i (by omega) (Bd_i (Ob_i g1 (Bd_i k1)))))), G_i (by omega) (el_i z (G_i (by omega) (el_i (by omega) (Ob_i D1 (G_i (by omega) (Bd_i ?_)))))), k3⟩
      rw [← e1]
      exact Ob_i g2 (Bd_i k2)
theorem op_cost {P F L st rs n pairs ends tg th sm : Int} {tok w en lg slots de fb ta la ne mk wh by_ ld here fur costs nxt : Nat → Int} {need bo em tak gi found : Nat → Int64} (hp : packed F w need bo em tak gi) (hw : wOk w) (ho : wOut P w) (hP : 0 ≤ P ∧ P ≤ 6) (hF : 0 ≤ F ∧ F ≤ 8) (ht : tOk P (tk tok)) (hst : 0 ≤ st ∧ st < 1000000) (hL : 0 ≤ L ∧ L ≤ 10) (he : ∀ j : Nat, (j : Int) < L → en j = lg j ∧ 0 ≤ en j ∧ en j < F) (hR : RS P F tok w st rs n pairs ends tg found slots de fb ta la ne) :
    ∃ rx rm, F_X5_cost F (pk (cut P (tk tok))) st need bo em tak gi L en rs n pairs ends tg found slots de fb ta la ne sm here fur = some rx ∧ F_X6_cost P F L tok w lg th mk wh by_ ld costs nxt = some rm ∧ RS P F tok w st rx.2.1 rx.2.2.1 rx.2.2.2.1 rx.2.2.2.2.1 rx.2.2.2.2.2.1 rx.2.2.2.2.2.2.1 rx.2.2.2.2.2.2.2.1 rx.2.2.2.2.2.2.2.2.1 rx.2.2.2.2.2.2.2.2.2.1 rx.2.2.2.2.2.2.2.2.2.2.1 rx.2.2.2.2.2.2.2.2.2.2.2.1 rx.2.2.2.2.2.2.2.2.2.2.2.2.1 ∧ rx.1 = rm.1 ∧ inR rx.1 ∧ rm.2.1 = 0 ∧ ∀ q, F_X6_findAll P F tok w mk wh by_ ld = some q → (q.1 = -1 ∧ rx.1 = -1) ∨ (q.1 ≠ -1 ∧ 0 ≤ rx.1 ∧ rx.1 ≤ L) := by
  obtain ⟨⟨rs', n', pa', en', tg', fo', sl', de', fb', ta', la', ne'⟩, g1, g2, g3⟩ := refresh_ok (st := st) (rs := rs) (n := n) (pairs := pairs) (ends := ends) (tg := tg) (found := found) (slots := slots) (de := de) (fb := fb) (ta := ta) (la := la) (ne := ne) hp hw ho hP hF ht (by have := hR.1; omega) (by omega) hR.2
  obtain ⟨⟨qn, qm, qw, qb, ql⟩, k1, k2⟩ := g3 mk wh by_ ld
  dsimp only at g2 g3 k2
  have hRS : RS P F tok w st rs' n' pa' en' tg' fo' sl' de' fb' ta' la' ne' := ⟨by omega, fun _ => g3⟩
  obtain ⟨j, hj⟩ : ∃ j, NN = j + 1 := ⟨NN - 1, by have := NN_gt (z := 1) (by omega); omega⟩
  rcases k2 with ⟨a1, a2⟩ | ⟨a1, a2, a3, -⟩
  · dsimp only at a2
    subst a2
    refine ⟨(-1, rs', n', pa', en', tg', fo', sl', de', fb', ta', la', ne', sm, here, fur), (-1, 0, qm, qw, qb, ql, costs, nxt), ?_, ?_, hRS, rfl, by dsimp only; omega, rfl, fun q hq => Or.inl ⟨by rw [← Option.some.inj (k1.symm.trans hq)], rfl⟩⟩
    · unfold F_X5_cost
      exact Ob_i g1 (G_i (by dsimp only; omega) (el_i (by dsimp only; omega) rfl))
    · unfold F_X6_cost
      refine Ob_i k1 ?_
      have e3 : F_X6_cost_b92 P F L tok w lg NN (-1) (-1) 0 0 qm qw qb ql costs nxt = some (-1, 0, qm, qw, qb, ql, costs, nxt) := by
        rw [hj]
        show F_X6_cost_b92_body P F L tok w lg (F_X6_cost_b92 P F L tok w lg j) (-1) (-1) 0 0 qm qw qb ql costs nxt = _
        unfold F_X6_cost_b92_body
        exact G_i (by omega) (if_i (by omega) rfl)
      have e4 : F_X6_cost_b77 P F L tok w lg (-1) 0 qm qw qb ql costs nxt = some (-1, 0, qm, qw, qb, ql, costs, nxt) := by
        unfold F_X6_cost_b77 F_X6_cost_b89
        exact G_i (by omega) (if_i rfl e3)
      have e2 : F_X6_cost_b42 P F L tok w lg NN (-1) 0 0 qm qw qb ql costs nxt = some (-1, 0, qm, qw, qb, ql, costs, nxt) := by
        rw [hj]
        show F_X6_cost_b42_body P F L tok w lg (F_X6_cost_b42 P F L tok w lg j) (-1) 0 0 qm qw qb ql costs nxt = _
        unfold F_X6_cost_b42_body
        refine G_i (by omega) ?_
        by_cases z : L ≤ 0
        · exact if_i z e4
        · exact el_i z (G_i (by omega) (if_i rfl e4))
      have e1 : F_X6_cost_b12 P F L tok w lg NN (-1) 0 0 qm qw qb ql costs nxt = some (-1, 0, qm, qw, qb, ql, costs, nxt) := by
        rw [hj]
        show F_X6_cost_b12_body P F L tok w lg (F_X6_cost_b12 P F L tok w lg j) (-1) 0 0 qm qw qb ql costs nxt = _
        unfold F_X6_cost_b12_body
        exact G_i (by omega) (if_i (by omega) e2)
      exact e1
  · dsimp only at a2 a3
    obtain ⟨hn1, hH, hN, hE, hw0, he0⟩ := a3
    subst a2
    have hl : ldB qn F ql := fun m f m1 m2 f1 f2 => (target_ok hE hn1 ⟨m1, m2⟩ ⟨f1, f2⟩ hF.2).2
    have hT : ∀ m f : Int, 0 ≤ m → m < qn → 0 ≤ f → f < F → F_X1_target m f ta' = some (ql (8 * m + f).toNat) := fun m f m1 m2 f1 f2 => (target_ok hE hn1 ⟨m1, m2⟩ ⟨f1, f2⟩ hF.2).1
    obtain ⟨h0, f1, f2⟩ := fill3_ok (a0 := here)
    -- the reference's start
    have ini : ∀ (fu : Nat) (m : Int) (a : Nat → Int), 0 ≤ m → m ≤ qn → qn - m < fu → (∀ x : Int, 0 ≤ x → x < m → a x.toNat = if x = 0 then 0 else 1000) → ∃ a', (∀ x : Int, 0 ≤ x → x < qn → a' x.toNat = if x = 0 then 0 else 1000) ∧ F_X6_cost_b12 P F L tok w lg fu qn m 0 qm qw qb ql a nxt = F_X6_cost_b42 P F L tok w lg NN qn 0 0 qm qw qb ql a' nxt := by
      intro fu
      induction fu with
      | zero => intro m a q1 q2 q3; exact absurd q3 (by omega)
      | succ fu ih =>
        intro m a q1 q2 q3 q4
        show ∃ a', _ ∧ F_X6_cost_b12_body P F L tok w lg (F_X6_cost_b12 P F L tok w lg fu) qn m 0 qm qw qb ql a nxt = _
        unfold F_X6_cost_b12_body F_X6_cost_b33
        by_cases z : qn ≤ m
        · exact ⟨a, fun x a b => q4 x a (by omega), G_i (by omega) (if_i z rfl)⟩
        · obtain ⟨a', k1, k2⟩ := ih (m + 1) (uI a m.toNat (if m = 0 then 0 else 1000)) (by omega) (by omega) (by omega) (fun x a b => by
            by_cases q : x.toNat = m.toNat
            · rw [q, uI_same, show x = m by omega]
            · rw [uI_ne _ _ q]; exact q4 x a (by omega))
          refine ⟨a', k1, G_i (by omega) (el_i z (G_i (by omega) ?_))⟩
          by_cases y : m = 0
          · rw [if_pos y] at k2
            exact if_i y (G_i (by omega) (Bd_i (Bd_i k2)))
          · rw [if_neg y] at k2
            exact el_i y (G_i (by omega) (Bd_i (Bd_i k2)))
    obtain ⟨d, d1, d2⟩ := ini NN 0 costs (by omega) (by omega) (NN_gt (by omega)) (fun x a b => absurd b (by omega))
    have eh : ∀ m : Int, 0 ≤ m → m < qn → uI h0 (0 : Int).toNat 0 m.toNat = if m = 0 then 0 else 1000 := fun m m1 m2 => by
      by_cases q : m = 0
      · rw [q, uI_same, if_pos rfl]
      · rw [uI_ne _ _ (by omega), if_neg q]; exact f2 _ (by omega)
    obtain ⟨rx, rm, x1, x2, x3, x4, x5⟩ := costs_ok (P := P) (th := 0) (ld := ql) (ta := ta') (c := uI h0 (0 : Int).toNat 0) (fur := fur) (d := d) (nxt := nxt) (en := en) (lg := lg) (tok := tok) (w := w) (mk := qm) (wh := qw) (by_ := qb) hn1 hF hL he hl hT NN NN 0 (uI h0 (0 : Int).toNat 0) fur d nxt (by omega) hL.1 (NN_gt (by omega)) (NN_gt (by omega)) (fun m m1 m2 => Or.inl ((eh m m1 m2).trans (d1 m m1 m2).symm)) (fun m m1 m2 => by rw [eh m m1 m2]; dsimp only; split <;> omega) (fun m m1 m2 => by rw [eh m m1 m2]; split <;> omega) (fun m m1 m2 => by rw [d1 m m1 m2]; dsimp only; split <;> omega) (fun m m1 m2 => by rw [d1 m m1 m2]; split <;> omega) (by have := d1 0 (by omega) (by omega); have w : d 0 = 0 := this; omega)
    refine ⟨(rx.1, rs', qn, pa', en', tg', fo', sl', de', fb', ta', la', ne', rx.2.1, rx.2.2.1, rx.2.2.2), rm, ?_, ?_, hRS, x3, by dsimp only; omega, x4, fun q hq => Or.inr ⟨by rw [← Option.some.inj (k1.symm.trans hq)]; dsimp only; omega, x5⟩⟩
    · unfold F_X5_cost F_X2_leastCost
      exact Ob_i g1 (G_i (by dsimp only; omega) (if_i a1 (Ob_i (Ob_i (y := qn) (by unfold F_J9_min_7cf53; exact G_i (by dsimp only; omega) (el_i (by dsimp only; omega) rfl)) (Ob_i f1 (G_i (by omega) (Bd_i x1)))) rfl)))
    · unfold F_X6_cost
      exact Ob_i k1 (d2.trans x2)
