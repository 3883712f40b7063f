/-! the class: gains, what is admitted, the kept rows and rounds -/
theorem begin_ok {k : Nat} {w0 : Int} {adm : Nat → Int} (hk : k ≤ 8) : ∃ r, F_X0_begin (k : Int) w0 adm = some r ∧ (r.1 = (k : Int) ∧ ∀ p, p < 8 → r.2 p = 0) := by
  have key : ∀ (fu i : Nat) (a : Nat → Int), i ≤ 8 → 8 - i < fu → (∀ p, p < i → a p = 0) → ∃ r, F_X0_begin_b12 fu (i : Int) (k : Int) a = some r ∧ (r.1 = (k : Int) ∧ ∀ p, p < 8 → r.2 p = 0) := by
    intro fu
    induction fu with
    | zero => intro i a h1 h2; exact absurd h2 (by omega)
    | succ fu ih =>
      intro i a h1 h2 h3
      show ∃ r, F_X0_begin_b12_body (F_X0_begin_b12 fu) (i : Int) (k : Int) a = some r ∧ _
      unfold F_X0_begin_b12_body
      refine G_e (by omega) ?_
      by_cases z : (8 : Int) ≤ (i : Int)
      · exact if_e z (so_e ⟨rfl, fun p hp => h3 p (by omega)⟩)
      · refine el_e z (G_e (by omega) (Bd_e (Bd_e (ih (i + 1) _ (by omega) (by omega) (fun p hp => ?_)))))
        rw [Int.toNat_natCast]
        by_cases q : p = i
        · rw [q, uI_same]
        · rw [uI_ne _ _ q]; exact h3 p (by omega)
  unfold F_X0_begin F_J9_min_7cf53
  have h := key NN 0 adm (Nat.zero_le _) (by have := NN_gt (z := 100) (by omega); omega) (fun p hp => absurd hp (Nat.not_lt_zero p))
  by_cases z : (8 : Int) < (k : Int)
  · omega
  · exact Ob_e (G_i (by omega) (el_i z rfl)) h
theorem admit_ok {k p : Nat} {x : Int64} {col : Nat → Int64} {adm : Nat → Int} (hk : k ≤ 8) (hp : p < k) : F_X0_admit (p : Int) x (k : Int) col adm = some (uI col p x, uI adm p 1) := by
  unfold F_X0_admit
  exact G_i (by omega) (el_i (by omega) (G_i (by omega) (el_i (by omega) (G_i (by omega) (Bd_i (G_i (by omega) (Bd_i rfl)))))))
theorem gain_ok {w : Nat → Int} {f p : Nat} (hw : wOk w) (hf : f < 8) (hp : p < 6) : F_X3_gain (f : Int) (p : Int) w = some (Int64.ofInt (chg w f p)) := by
  have hb := chg_b hw hf hp
  unfold F_X3_gain
  refine Ob_i (wt3_ok (by omega) (by omega) (by omega)) (Ob_i (wt3_ok (by omega) (by omega) (by omega)) ?_)
  have e : lI (wt w 1 (f : Int) (p : Int) - wt w 0 (f : Int) (p : Int)) = Int64.ofInt (chg w f p) := lI_z (by unfold chg at hb; omega)
  rw [e]
theorem lN_ofInt (n : Nat) : lN n = Int64.ofInt (n : Int) := Int64.ofInt_eq_ofNat.symm
theorem lShl_z {z b : Int} (h : 0 ≤ b) (hb : b < 64) : lShl (Int64.ofInt z) b = Int64.ofInt (z * 2 ^ b.toNat) := by
  obtain ⟨n, -, e⟩ := wb_of (Int64.ofInt z)
  rw [e, lShl_ok h hb, lN_ofInt, Int.natCast_mul, Int64.ofInt_mul, Int64.ofInt_mul, ← lN_ofInt, ← e, Int.natCast_pow]
  rfl
theorem p256 (j : Nat) : (2 : Int) ^ (8 * (j : Int)).toNat = 256 ^ j := by
  rw [show (8 * (j : Int)).toNat = 8 * j by omega, Int.pow_mul]
  rfl
theorem isEmptied_ok {n p : Nat} {w : Nat → Int} (hw : wOk w) (hn : n ≤ 8) (hp : p < 6) : ∃ r, F_X3_isEmptied (p : Int) (n : Int) w = some r ∧ isB r (¬ adRow n w p) := by
  have key : ∀ (fu f : Nat), f ≤ n → n - f < fu → (∀ j : Nat, j < f → wt w 4 (j : Int) (p : Int) = 0) → ∃ r, F_X3_isEmptied_b2 (n : Int) w fu (p : Int) (f : Int) = some r ∧ isB r (¬ adRow n w p) := by
    intro fu
    induction fu with
    | zero => intro f h1 h2; exact absurd h2 (by omega)
    | succ fu ih =>
      intro f h1 h2 h3
      show ∃ r, F_X3_isEmptied_b2_body (n : Int) w (F_X3_isEmptied_b2 (n : Int) w fu) (p : Int) (f : Int) = some r ∧ _
      unfold F_X3_isEmptied_b2_body
      refine G_e (by omega) ?_
      by_cases z : (n : Int) ≤ (f : Int)
      · exact if_e z (G_e (Or.inl rfl) (so_e (Or.inr ⟨rfl, fun q => q (fun j hj => h3 j (by omega))⟩)))
      · have hb := hw.1 4 (f : Int) (p : Int) (by omega) (by omega) (by omega) (by omega) (by omega) (by omega)
        refine el_e z (Ob_e (wt3_ok (by omega) (by omega) (by omega)) (G_e (by omega) ?_))
        by_cases y : wt w 4 (f : Int) (p : Int) ≤ 0
        · refine if_e y (Bd_e (ih (f + 1) (by omega) (by omega) (fun j hj => ?_)))
          by_cases q : j = f
          · rw [q]; omega
          · exact h3 j (by omega)
        · exact el_e y (G_e (Or.inr rfl) (so_e (Or.inl ⟨rfl, fun q => y (by have := q f (by omega); omega)⟩)))
  unfold F_X3_isEmptied
  exact key NN 0 (Nat.zero_le _) (by have := NN_gt (z := 100) (by omega); omega) (fun j hj => absurd hj (Nat.not_lt_zero j))
theorem empties_ok {n f : Nat} {w : Nat → Int} (hw : wOk w) (hn : n ≤ 6) (hf : f < 8) : ∃ r, F_X3_placesWith 4 (f : Int) (n : Int) w = some r ∧ inR r ∧ (r = 0 ↔ adRound n w f) := by
  have h64 := so_64 (w := w) (k := 4) (f := (f : Int)) (P := (n : Int)) (by omega)
  refine ⟨_, placesWith_ok (by omega) (by omega) (by omega) hw, by omega, ?_⟩
  rw [Int.toNat_natCast]
  constructor
  · intro h j hj
    have hz : so w 4 (f : Int) n = 0 := by omega
    have hb := hw.1 4 (f : Int) (j : Int) (by omega) (by omega) (by omega) (by omega) (by omega) (by omega)
    have := so_bit (w := w) (k := 4) (f := (f : Int)) n j
    rw [hz, Nat.zero_testBit, decide_eq_true hj, Bool.true_and] at this
    have := of_decide_eq_false this.symm
    omega
  · intro h
    have : so w 4 (f : Int) n = 0 := Nat.eq_of_testBit_eq fun i => by
      rw [so_bit, Nat.zero_testBit]
      by_cases hi : i < n
      · rw [h i hi]
        simp
      · rw [decide_eq_false hi, Bool.false_and]
    rw [this]
    rfl
theorem gainsOfPlace_ok {n i : Nat} {w : Nat → Int} (hw : wOk w) (hn : n ≤ 8) (hi : i < 6) : F_X3_gainsOfPlace (i : Int) (n : Int) w = some (Int64.ofInt (gP n (gRow w) i)) := by
  have key : ∀ (fu j : Nat), j ≤ n → n - j < fu → F_X3_gainsOfPlace_b5 (n : Int) w fu (i : Int) (Int64.ofInt (si j (fun j => gRow w j i * 256 ^ j))) (j : Int) = some (Int64.ofInt (gP n (gRow w) i)) := by
    intro fu
    induction fu with
    | zero => intro j h1 h2; exact absurd h2 (by omega)
    | succ fu ih =>
      intro j h1 h2
      show F_X3_gainsOfPlace_b5_body (n : Int) w (F_X3_gainsOfPlace_b5 (n : Int) w fu) (i : Int) _ (j : Int) = _
      unfold F_X3_gainsOfPlace_b5_body
      refine G_i (by omega) ?_
      by_cases z : (n : Int) ≤ (j : Int)
      · refine if_i z ?_
        obtain rfl : j = n := by omega
        rfl
      · refine el_i z (Ob_i (gain_ok hw (by omega) (by omega)) (Bd_i (Bd_i ?_)))
        rw [lShl_z (by omega) (by omega), p256, ← Int64.ofInt_add]
        exact ih (j + 1) (by omega) (by omega)
  unfold F_X3_gainsOfPlace
  exact Bd_i (key NN 0 (Nat.zero_le _) (by have := NN_gt (z := 100) (by omega); omega))
def BRow (k n : Nat) (w : Nat → Int) (cnt : Int) (le : Nat → Int) : Prop := cnt = ((kB 4 k n (gRow w) (adRow n w) (4 ^ k)).length : Int) ∧ Arr (enB 4 k) le (kB 4 k n (gRow w) (adRow n w) (4 ^ k))
/-- the class's kept ones: of the shape that they name -/
def RRow (k n : Nat) (w : Nat → Int) (sh ss cnt : Int) (le : Nat → Int) : Prop := (-1 ≤ ss ∧ ss ≤ sh) ∧ (ss = sh → BRow k n w cnt le)
theorem refreshRows_ok {k n : Nat} {w le adm : Nat → Int} {sh ss cnt wd v : Int} {su : Int64} {col : Nat → Int64} (hw : wOk w) (hk : k ≤ 6) (hn : n ≤ 8) (hsh : 0 ≤ sh ∧ sh < 1000000) (hR : RRow k n w sh ss cnt le) :
    ∃ r, F_X5_refreshRows (k : Int) (n : Int) sh w 3 wd v su cnt ss le col adm = some r ∧ (r.2.2.2.2.1 = sh ∧ BRow k n w r.2.2.2.1 r.2.2.2.2.2.1) := by
  have key : ∀ (fu i : Nat) (col : Nat → Int64) (adm : Nat → Int), i ≤ k → k - i < fu → (∀ p, p < i → (adm p = 0 ∨ adm p = 1) ∧ (adm p = 1 ↔ adRow n w p) ∧ (adm p = 1 → col p = Int64.ofInt (gP n (gRow w) p))) → (∀ p, i ≤ p → p < 8 → adm p = 0) → ∃ r, F_X5_refreshRows_b48 (k : Int) (n : Int) sh w 3 fu (i : Int) (k : Int) v su cnt sh le col adm = some r ∧ (r.2.2.2.2.1 = sh ∧ BRow k n w r.2.2.2.1 r.2.2.2.2.2.1) := by
    intro fu
    induction fu with
    | zero => intro i col adm h1 h2; exact absurd h2 (by omega)
    | succ fu ih =>
      intro i col adm h1 h2 h3 h4
      show ∃ r, F_X5_refreshRows_b48_body (k : Int) (n : Int) sh w 3 (F_X5_refreshRows_b48 (k : Int) (n : Int) sh w 3 fu) (i : Int) (k : Int) v su cnt sh le col adm = some r ∧ _
      unfold F_X5_refreshRows_b48_body
      refine G_e (by omega) ?_
      by_cases z : (k : Int) ≤ (i : Int)
      · have hki : k = i := by omega
        have hpw := p4_le (k := k) hk
        obtain ⟨r, r1, r2, r3⟩ := find_ok (m := 3) (k := k) (nE := n) (n := 580) (g := gRow w) (ad := adRow n w) (col := col) (adm := adm) (l0 := le) (v0 := v) (c0 := cnt) (s0 := su) (by omega) (by omega) (by show 4 ^ k ≤ 6561; omega) (fun c hc => rows_len hk hc) (by omega) (by omega) (by omega) (fun j hj i hi => chg_b hw (by omega) (by omega)) (fun p hp => (h3 p (by omega)).1) (fun p hp => (h3 p (by omega)).2.1) (fun p hp => (h3 p (by omega)).2.2)
        exact if_e z (Ob_e r1 (so_e ⟨rfl, r2, r3⟩))
      · have hi : i < k := by omega
        have skip : ¬ adRow n w i → ∃ r, F_X5_refreshRows_b86 (k : Int) (n : Int) sh w 3 (F_X5_refreshRows_b48 (k : Int) (n : Int) sh w 3 fu) (i : Int) (k : Int) v su cnt sh le col adm = some r ∧ (r.2.2.2.2.1 = sh ∧ BRow k n w r.2.2.2.1 r.2.2.2.2.2.1) := fun h => ih (i + 1) col adm (by omega) (by omega) (fun p hp => by
          by_cases q : p = i
          · rw [q]
            have := h4 i (by omega) (by omega)
            exact ⟨Or.inl this, ⟨fun t => by omega, fun t => absurd t h⟩, fun t => by omega⟩
          · exact h3 p (by omega)) (fun p p1 p2 => h4 p (by omega) p2)
        have take : adRow n w i → ∃ r, Ob (F_X3_gainsOfPlace (i : Int) (n : Int) w) (fun r4 => Ob (F_X0_admit (i : Int) r4 (k : Int) col adm) (fun r5 => F_X5_refreshRows_b86 (k : Int) (n : Int) sh w 3 (F_X5_refreshRows_b48 (k : Int) (n : Int) sh w 3 fu) (i : Int) (k : Int) v su cnt sh le r5.1 r5.2)) = some r ∧ (r.2.2.2.2.1 = sh ∧ BRow k n w r.2.2.2.1 r.2.2.2.2.2.1) := fun h => by
          refine Ob_e (gainsOfPlace_ok hw hn (by omega)) (Ob_e (admit_ok (by omega) hi) (ih (i + 1) _ _ (by omega) (by omega) (fun p hp => ?_) (fun p p1 p2 => ?_)))
          · dsimp only
            by_cases q : p = i
            · rw [q, uI_same, uI_same]
              exact ⟨Or.inr rfl, ⟨fun _ => h, fun _ => rfl⟩, fun _ => rfl⟩
            · rw [uI_ne _ _ q, uI_ne _ _ q]
              exact h3 p (by omega)
          · dsimp only
            rw [uI_ne _ _ (by omega)]
            exact h4 p (by omega) p2
        obtain ⟨r, r1, r2⟩ := isEmptied_ok (p := i) hw hn (by omega)
        refine el_e z (Ob_e r1 (G_e (by have := isB_01 r2; omega) ?_))
        rcases r2 with ⟨rfl, r2⟩ | ⟨rfl, r2⟩
        · exact el_e (by omega) (skip r2)
        · exact if_e rfl (take (Classical.byContradiction r2))
  unfold F_X5_refreshRows
  refine G_e ⟨by have := hR.1; omega, by omega⟩ ?_
  by_cases c : ss = sh
  · exact if_e c (so_e ⟨c, hR.2 c⟩)
  · refine el_e c ?_
    obtain ⟨⟨b, adm1⟩, b1, b2, b3⟩ := begin_ok (k := k) (w0 := wd) (adm := adm) (by omega)
    dsimp only at b2
    subst b2
    exact Ob_e b1 (key NN 0 col adm1 (Nat.zero_le _) (by have := NN_gt (z := 100) (by omega); omega) (fun p hp => absurd hp (Nat.not_lt_zero p)) (fun p _ hp => b3 p hp))
theorem gainsOfFiring_ok {n i : Nat} {w : Nat → Int} (hw : wOk w) (hn : n ≤ 6) (hi : i < 8) : F_X3_gainsOfFiring (i : Int) (n : Int) w = some (Int64.ofInt (gP n (gRound w) i)) := by
  have key : ∀ (fu j : Nat), j ≤ n → n - j < fu → F_X3_gainsOfFiring_b5 (n : Int) w fu (i : Int) (Int64.ofInt (si j (fun j => gRound w j i * 256 ^ j))) (j : Int) = some (Int64.ofInt (gP n (gRound w) i)) := by
    intro fu
    induction fu with
    | zero => intro j h1 h2; exact absurd h2 (by omega)
    | succ fu ih =>
      intro j h1 h2
      show F_X3_gainsOfFiring_b5_body (n : Int) w (F_X3_gainsOfFiring_b5 (n : Int) w fu) (i : Int) _ (j : Int) = _
      unfold F_X3_gainsOfFiring_b5_body
      refine G_i (by omega) ?_
      by_cases z : (n : Int) ≤ (j : Int)
      · refine if_i z ?_
        obtain rfl : j = n := by omega
        rfl
      · refine el_i z (Ob_i (gain_ok hw (by omega) (by omega)) (Bd_i (Bd_i ?_)))
        rw [lShl_z (by omega) (by omega), p256, ← Int64.ofInt_add]
        exact ih (j + 1) (by omega) (by omega)
  unfold F_X3_gainsOfFiring
  exact Bd_i (key NN 0 (Nat.zero_le _) (by have := NN_gt (z := 100) (by omega); omega))
def BRound (k n : Nat) (w : Nat → Int) (cnt : Int) (le : Nat → Int) : Prop := cnt = ((kB 3 k n (gRound w) (adRound n w) (3 ^ k)).length : Int) ∧ Arr (enB 3 k) le (kB 3 k n (gRound w) (adRound n w) (3 ^ k))
/-- the class's kept ones: of the shape that they name -/
def RRound (k n : Nat) (w : Nat → Int) (sh ss cnt : Int) (le : Nat → Int) : Prop := (-1 ≤ ss ∧ ss ≤ sh) ∧ (ss = sh → BRound k n w cnt le)
theorem refreshRounds_ok {k n : Nat} {w le adm : Nat → Int} {sh ss cnt wd v : Int} {su : Int64} {col : Nat → Int64} (hw : wOk w) (hk : k ≤ 8) (hn : n ≤ 6) (hsh : 0 ≤ sh ∧ sh < 1000000) (hR : RRound k n w sh ss cnt le) :
    ∃ r, F_X5_refreshRounds (n : Int) (k : Int) sh w 2 wd v su cnt ss le col adm = some r ∧ (r.2.2.2.2.1 = sh ∧ BRound k n w r.2.2.2.1 r.2.2.2.2.2.1) := by
  have key : ∀ (fu i : Nat) (col : Nat → Int64) (adm : Nat → Int), i ≤ k → k - i < fu → (∀ p, p < i → (adm p = 0 ∨ adm p = 1) ∧ (adm p = 1 ↔ adRound n w p) ∧ (adm p = 1 → col p = Int64.ofInt (gP n (gRound w) p))) → (∀ p, i ≤ p → p < 8 → adm p = 0) → ∃ r, F_X5_refreshRounds_b48 (n : Int) (k : Int) sh w 2 fu (i : Int) (k : Int) v su cnt sh le col adm = some r ∧ (r.2.2.2.2.1 = sh ∧ BRound k n w r.2.2.2.1 r.2.2.2.2.2.1) := by
    intro fu
    induction fu with
    | zero => intro i col adm h1 h2; exact absurd h2 (by omega)
    | succ fu ih =>
      intro i col adm h1 h2 h3 h4
      show ∃ r, F_X5_refreshRounds_b48_body (n : Int) (k : Int) sh w 2 (F_X5_refreshRounds_b48 (n : Int) (k : Int) sh w 2 fu) (i : Int) (k : Int) v su cnt sh le col adm = some r ∧ _
      unfold F_X5_refreshRounds_b48_body
      refine G_e (by omega) ?_
      by_cases z : (k : Int) ≤ (i : Int)
      · have hki : k = i := by omega
        have hpw := p3_le (k := k) hk
        obtain ⟨r, r1, r2, r3⟩ := find_ok (m := 2) (k := k) (nE := n) (n := 1107) (g := gRound w) (ad := adRound n w) (col := col) (adm := adm) (l0 := le) (v0 := v) (c0 := cnt) (s0 := su) (by omega) (by omega) (by show 3 ^ k ≤ 6561; omega) (fun c hc => rounds_len hk hc) (by omega) (by omega) (by omega) (fun j hj i hi => chg_b hw (by omega) (by omega)) (fun p hp => (h3 p (by omega)).1) (fun p hp => (h3 p (by omega)).2.1) (fun p hp => (h3 p (by omega)).2.2)
        exact if_e z (Ob_e r1 (so_e ⟨rfl, r2, r3⟩))
      · have hi : i < k := by omega
        have skip : ¬ adRound n w i → ∃ r, F_X5_refreshRounds_b87 (n : Int) (k : Int) sh w 2 (F_X5_refreshRounds_b48 (n : Int) (k : Int) sh w 2 fu) (i : Int) (k : Int) v su cnt sh le col adm = some r ∧ (r.2.2.2.2.1 = sh ∧ BRound k n w r.2.2.2.1 r.2.2.2.2.2.1) := fun h => ih (i + 1) col adm (by omega) (by omega) (fun p hp => by
          by_cases q : p = i
          · rw [q]
            have := h4 i (by omega) (by omega)
            exact ⟨Or.inl this, ⟨fun t => by omega, fun t => absurd t h⟩, fun t => by omega⟩
          · exact h3 p (by omega)) (fun p p1 p2 => h4 p (by omega) p2)
        have take : adRound n w i → ∃ r, Ob (F_X3_gainsOfFiring (i : Int) (n : Int) w) (fun r4 => Ob (F_X0_admit (i : Int) r4 (k : Int) col adm) (fun r5 => F_X5_refreshRounds_b87 (n : Int) (k : Int) sh w 2 (F_X5_refreshRounds_b48 (n : Int) (k : Int) sh w 2 fu) (i : Int) (k : Int) v su cnt sh le r5.1 r5.2)) = some r ∧ (r.2.2.2.2.1 = sh ∧ BRound k n w r.2.2.2.1 r.2.2.2.2.2.1) := fun h => by
          refine Ob_e (gainsOfFiring_ok hw hn (by omega)) (Ob_e (admit_ok (by omega) hi) (ih (i + 1) _ _ (by omega) (by omega) (fun p hp => ?_) (fun p p1 p2 => ?_)))
          · dsimp only
            by_cases q : p = i
            · rw [q, uI_same, uI_same]
              exact ⟨Or.inr rfl, ⟨fun _ => h, fun _ => rfl⟩, fun _ => rfl⟩
            · rw [uI_ne _ _ q, uI_ne _ _ q]
              exact h3 p (by omega)
          · dsimp only
            rw [uI_ne _ _ (by omega)]
            exact h4 p (by omega) p2
        obtain ⟨r, r1, r2, r3⟩ := empties_ok (f := i) hw hn (by omega)
        refine el_e z (Ob_e r1 (G_e r2 ?_))
        by_cases y : r = 0
        · exact if_e y (take (r3.mp y))
        · exact el_e y (skip (fun t => y (r3.mpr t)))
  unfold F_X5_refreshRounds
  refine G_e ⟨by have := hR.1; omega, by omega⟩ ?_
  by_cases c : ss = sh
  · exact if_e c (so_e ⟨c, hR.2 c⟩)
  · refine el_e c ?_
    obtain ⟨⟨b, adm1⟩, b1, b2, b3⟩ := begin_ok (k := k) (w0 := wd) (adm := adm) (by omega)
    dsimp only at b2
    subst b2
    exact Ob_e b1 (key NN 0 col adm1 (Nat.zero_le _) (by have := NN_gt (z := 100) (by omega); omega) (fun p hp => absurd hp (Nat.not_lt_zero p)) (fun p _ hp => b3 p hp))
