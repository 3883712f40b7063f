/-! the class's find: it keeps the list of the least balances -/
theorem si_2 {s : Nat → Int} : ∀ (n : Nat), (∀ j, j < n → -127 ≤ s j ∧ s j ≤ 127) → -(256 ^ n) < 2 * si n (fun j => s j * 256 ^ j) ∧ 2 * si n (fun j => s j * 256 ^ j) < 256 ^ n
  | 0, _ => by rw [si]; omega
  | n + 1, h => by
    have h1 := si_2 n (fun j hj => h j (by omega))
    have h2 := h n (by omega)
    have hp : (0 : Int) < 256 ^ n := Int.pow_pos (by decide)
    rw [si, Int.pow_succ]
    generalize (256 : Int) ^ n = X at h1 hp ⊢
    have h3 := Int.mul_le_mul_of_nonneg_right h2.1 (by omega : 0 ≤ X)
    have h4 := Int.mul_le_mul_of_nonneg_right h2.2 (by omega : 0 ≤ X)
    omega
theorem ofInt_0 {S : Int} (h : -18446744073709551616 < 2 * S ∧ 2 * S < 18446744073709551616) : Int64.ofInt S = 0 ↔ S = 0 := by
  constructor
  · intro e
    have := congrArg Int64.toInt e
    rw [Int64.toInt_ofInt_of_le (by omega) (by omega)] at this
    exact this
  · intro e
    rw [e]
    rfl
/-- a column, packed -/
def gP (nE : Nat) (g : Nat → Nat → Int) (i : Nat) : Int := si nE (fun j => g j i * 256 ^ j)
theorem gP_sum {nE k : Nat} {g : Nat → Nat → Int} {d : Nat → Nat} : si k (fun i => (d i : Int) * gP nE g i) = si nE (fun j => si k (fun i => (d i : Int) * g j i) * 256 ^ j) := by
  have e1 : ∀ i, (d i : Int) * gP nE g i = si nE (fun j => ((d i : Int) * g j i) * 256 ^ j) := fun i => by
    unfold gP
    rw [Int.mul_comm, ← si_mul]
    exact si_cong nE (fun j _ => by rw [Int.mul_right_comm, Int.mul_comm (g j i)])
  rw [si_cong k (fun i _ => e1 i), si_swap]
  exact si_cong nE (fun j _ => si_mul _ _ k)
theorem gP_zero {nE k m : Nat} {g : Nat → Nat → Int} {d : Nat → Nat} (hE : nE ≤ 8) (hkm : k * (3 * m) ≤ 127) (hg : ∀ j, j < nE → ∀ i, i < k → -3 ≤ g j i ∧ g j i ≤ 3) (hd : ∀ i, i < k → d i ≤ m) : Int64.ofInt (si k (fun i => (d i : Int) * gP nE g i)) = 0 ↔ ∀ j, j < nE → si k (fun i => (d i : Int) * g j i) = 0 := by
  have hb : ∀ j, j < nE → -127 ≤ si k (fun i => (d i : Int) * g j i) ∧ si k (fun i => (d i : Int) * g j i) ≤ 127 := fun j hj => by
    have := si_le (a := fun i => (d i : Int) * g j i) (M := ((3 * m : Nat) : Int)) k (fun i hi => by
      have g1 := hg j hj i hi
      have d1 := hd i hi
      have h3 := Int.mul_le_mul_of_nonneg_left g1.1 (by omega : 0 ≤ (d i : Int))
      have h4 := Int.mul_le_mul_of_nonneg_left g1.2 (by omega : 0 ≤ (d i : Int))
      omega)
    rw [← Int.natCast_mul] at this
    omega
  rw [gP_sum]
  have h2 := si_2 nE hb
  have h3 : (256 : Int) ^ nE ≤ 18446744073709551616 := by
    have e : ((256 ^ nE : Nat) : Int) = (256 : Int) ^ nE := Int.natCast_pow 256 nE
    have := Nat.pow_le_pow_right (n := 256) (by decide) hE
    rw [← e]
    omega
  rw [ofInt_0 (by omega)]
  constructor
  · intro h
    exact si_256 nE hb h
  · intro h
    rw [si_cong nE (fun j hj => by rw [h j hj, Int.zero_mul]), si_zero]
theorem find_ok {m k nE n : Nat} {g : Nat → Nat → Int} {ad : Nat → Prop} {col : Nat → Int64} {adm l0 : Nat → Int} {v0 c0 : Int} {s0 : Int64} (hm : m ≤ 3) (hk : k ≤ 8) (hB : (m + 1) ^ k ≤ 6561) (hn : ∀ c, c ≤ (m + 1) ^ k → (kB (m + 1) k nE g ad c).length ≤ n) (hn2 : n ≤ 2000) (hE : nE ≤ 8) (hkm : k * (3 * m) ≤ 127) (hg : ∀ j, j < nE → ∀ i, i < k → -3 ≤ g j i ∧ g j i ≤ 3) (hA : ∀ p, p < k → adm p = 0 ∨ adm p = 1) (hAd : ∀ p, p < k → (adm p = 1 ↔ ad p)) (hc : ∀ p, p < k → adm p = 1 → col p = Int64.ofInt (gP nE g p)) :
    ∃ r, F_X0_find n (m : Int) (k : Int) col adm v0 s0 c0 l0 = some r ∧ (r.2.2.1 = ((kB (m + 1) k nE g ad ((m + 1) ^ k)).length : Int) ∧ Arr (enB (m + 1) k) r.2.2.2 (kB (m + 1) k nE g ad ((m + 1) ^ k))) := by
  have hB0 : 0 < m + 1 := by omega
  have key : ∀ (fu : Nat) (i c : Nat) (least : Nat → Int), 6561 - i < fu → i ≤ c + 1 → c < (m + 1) ^ k → (∀ p, p < k → adm p = 0 → dg (m + 1) k c p = 0) → Arr (enB (m + 1) k) least (kB (m + 1) k nE g ad (c + 1)) → ∃ r, F_X0_find_b17 n (m : Int) (k : Int) col adm fu (i : Int) (enB (m + 1) k c) (Int64.ofInt (si k (fun i => (dk (m + 1) k c i : Int) * gP nE g i))) ((kB (m + 1) k nE g ad (c + 1)).length : Int) least = some r ∧ (r.2.2.1 = ((kB (m + 1) k nE g ad ((m + 1) ^ k)).length : Int) ∧ Arr (enB (m + 1) k) r.2.2.2 (kB (m + 1) k nE g ad ((m + 1) ^ k))) := by
    intro fu
    induction fu with
    | zero => intro i c least h1; exact absurd h1 (by omega)
    | succ fu ih =>
      intro i c least h1 h2 h3 h4 h5
      show ∃ r, F_X0_find_b17_body n (m : Int) (k : Int) col adm (F_X0_find_b17 n (m : Int) (k : Int) col adm fu) (i : Int) (enB (m + 1) k c) _ _ least = some r ∧ _
      unfold F_X0_find_b17_body
      refine G_e (by omega) ?_
      by_cases z : (6561 : Int) ≤ (i : Int)
      · refine if_e z (so_e ?_)
        rw [show (m + 1) ^ k = c + 1 by omega]
        exact ⟨rfl, h5⟩
      · refine el_e z ?_
        obtain ⟨r, r1, r2⟩ := advance_ok (m := m) (k := k) (d := dk (m + 1) k c) (col := col) (adm := adm) (G := gP nE g) hm hk (fun p _ => dk_le) (fun p hp => dk_out hp) hA (fun p hp hz => by rw [dk_in hp]; exact h4 p hp hz) hc
        have adE : ∀ e : Nat, bS (m + 1) k nE g ad e → ∀ p, p < k → adm p = 0 → dg (m + 1) k e p = 0 := fun e he p hp hz => he.2.1 p hp (fun q => by have := (hAd p hp).mpr q; omega)
        refine Ob_e r1 (G_e (by rcases r2 with q | q <;> have := q.1 <;> omega) ?_)
        rcases r2 with ⟨a1, a2⟩ | ⟨a1, q, q1, q2, q3, q4, q5, q6⟩
        · refine if_e a1 (so_e ?_)
          have e : kB (m + 1) k nE g ad ((m + 1) ^ k) = kB (m + 1) k nE g ad (c + 1) := by
            have := kp_far (S := bS (m + 1) k nE g ad) (bel := bB (m + 1) k) (a := c + 1) ((m + 1) ^ k - (c + 1)) (fun e e1 e2 he => by
              have hle : e ≤ c := dg_le hB0 (by omega) h3 (fun p hp => by
                rcases hA p hp with t | t
                · rw [adE e he p hp t]; exact Nat.zero_le _
                · have := a2 p hp t
                  rw [dk_in hp] at this
                  rw [this]
                  have := dg_lt (B := m + 1) (k := k) (c := e) (p := p) hB0
                  omega)
              omega)
            rw [show c + 1 + ((m + 1) ^ k - (c + 1)) = (m + 1) ^ k by omega] at this
            exact this
          rw [e]
          exact ⟨rfl, h5⟩
        · -- the next vector
          have nxm : ∀ p, p < k → nx (dk (m + 1) k c) q p < m + 1 := fun p _ => by
            unfold nx
            split
            · have := dk_le (m := m) (k := k) (c := c) (p := p); omega
            · split
              · rename_i t; rw [t]; omega
              · omega
          obtain ⟨c', hc'⟩ : ∃ c', c' = cod (m + 1) (nx (dk (m + 1) k c) q) k := ⟨_, rfl⟩
          have c1 : c' < (m + 1) ^ k := by rw [hc']; exact cod_lt k nxm
          have edk : dk (m + 1) k c' = nx (dk (m + 1) k c) q := funext fun p => by
            by_cases hp : p < k
            · rw [dk_in hp, hc', dg_cod hB0 nxm hp]
            · rw [dk_out (by omega)]
              unfold nx
              rw [if_neg (by omega), if_neg (by omega)]
          have pre : cod (m + 1) (nx (dk (m + 1) k c) q) (q + 1) = cod (m + 1) (dk (m + 1) k c) (q + 1) + 1 := by
            have e7 : cod (m + 1) (nx (dk (m + 1) k c) q) q = cod (m + 1) (dk (m + 1) k c) q := cod_cong q (fun p hp => if_pos hp)
            rw [cod, cod, e7]
            have : nx (dk (m + 1) k c) q q = dk (m + 1) k c q + 1 := by
              unfold nx
              rw [if_neg (by omega), if_pos rfl]
            omega
          have ec : cod (m + 1) (dk (m + 1) k c) k = c := by
            rw [cod_cong k (fun p hp => dk_in hp)]
            exact cod_dg hB0 h3
          have c2 : c < c' := by
            refine Decidable.byContradiction fun t => ?_
            have s1 := cod_split (d := nx (dk (m + 1) k c) q) hB0 k (q + 1) nxm (by omega)
            have s2 := cod_split (d := dk (m + 1) k c) hB0 k (q + 1) (fun p _ => by have := dk_le (m := m) (k := k) (c := c) (p := p); omega) (by omega)
            rw [← hc'] at s1
            rw [ec] at s2
            have := Nat.div_le_div_right (c := (m + 1) ^ (k - (q + 1))) (show c' ≤ c by omega)
            omega
          have btw : ∀ e, c + 1 ≤ e → e < c + 1 + (c' - (c + 1)) → ¬ bS (m + 1) k nE g ad e := fun e e1 e2 he => by
            have el : e < (m + 1) ^ k := by omega
            have ee := cod_dg (B := m + 1) (k := k) hB0 el
            by_cases t : cod (m + 1) (dg (m + 1) k e) (q + 1) ≤ cod (m + 1) (dk (m + 1) k c) (q + 1)
            · have := cod_from t (k - (q + 1)) (fun p p1 p2 => by
                rcases hA p (by omega) with u | u
                · rw [adE e he p (by omega) u]; exact Nat.zero_le _
                · rw [q4 p (by omega) (by omega) u]
                  have := dg_lt (B := m + 1) (k := k) (c := e) (p := p) hB0
                  omega)
              rw [show q + 1 + (k - (q + 1)) = k by omega, ee, ec] at this
              omega
            · have := cod_from (B := m + 1) (d := nx (dk (m + 1) k c) q) (e := dg (m + 1) k e) (i := q + 1) (by omega) (k - (q + 1)) (fun p p1 p2 => by
                unfold nx
                rw [if_neg (by omega), if_neg (by omega)]
                exact Nat.zero_le _)
              rw [show q + 1 + (k - (q + 1)) = k by omega, ee, ← hc'] at this
              omega
          have e9 : kB (m + 1) k nE g ad c' = kB (m + 1) k nE g ad (c + 1) := by
            have := kp_far (S := bS (m + 1) k nE g ad) (bel := bB (m + 1) k) (a := c + 1) (c' - (c + 1)) btw
            rw [show c + 1 + (c' - (c + 1)) = c' by omega] at this
            exact this
          rw [← edk] at q5 q6
          have h4' : ∀ p, p < k → adm p = 0 → dg (m + 1) k c' p = 0 := fun p hp hz => by
            rw [← dk_in hp, edk]
            unfold nx
            split
            · rw [dk_in hp]; exact h4 p hp hz
            · split
              · rename_i t; rw [t] at hz; omega
              · rfl
          have zero := gP_zero (g := g) (d := dk (m + 1) k c') hE hkm hg (fun i _ => dk_le)
          have bal : bS (m + 1) k nE g ad c' ↔ r.2.2 = 0 := by
            rw [q6, zero]
            constructor
            · intro h j hj
              rw [si_cong k (fun i hi => by rw [dk_in hi])]
              exact h.2.2 j hj
            · intro h
              refine ⟨by omega, fun p hp hz => h4' p hp (by
                rcases hA p hp with t | t
                · exact t
                · exact absurd ((hAd p hp).mp t) hz), fun j hj => ?_⟩
              have := h j hj
              rw [si_cong k (fun i hi => by rw [dk_in hi])] at this
              exact this
          rw [← e9] at h5 ⊢
          have q5' : r.2.1 = enB (m + 1) k c' := q5
          rw [q5']
          have skip : ¬ (bS (m + 1) k nE g ad c' ∧ ∀ a, a ∈ kp (bS (m + 1) k nE g ad) (bB (m + 1) k) c' → ¬ bB (m + 1) k a c') → ∃ r', F_X0_find_b82 n (m : Int) (k : Int) col adm (F_X0_find_b17 n (m : Int) (k : Int) col adm fu) (i : Int) (enB (m + 1) k c') r.2.2 ((kB (m + 1) k nE g ad c').length : Int) least = some r' ∧ (r'.2.2.1 = ((kB (m + 1) k nE g ad ((m + 1) ^ k)).length : Int) ∧ Arr (enB (m + 1) k) r'.2.2.2 (kB (m + 1) k nE g ad ((m + 1) ^ k))) := fun h => by
            have e : kB (m + 1) k nE g ad (c' + 1) = kB (m + 1) k nE g ad c' := kp_skip h
            have := ih (i + 1) c' least (by omega) (by omega) c1 h4' (by rw [e]; exact h5)
            rw [e] at this
            rw [q6]
            exact this
          have hlen := hn c' (by omega)
          refine el_e (by omega) ?_
          by_cases y : r.2.2 = (0 : Int64)
          · have hb := bal.mpr y
            refine if_e y (Bd_e (G_e (by omega) ?_))
            have full : (∀ a, a ∈ kp (bS (m + 1) k nE g ad) (bB (m + 1) k) c' → ¬ bB (m + 1) k a c') → (kB (m + 1) k nE g ad c').length < n := fun h => by
              have e : kB (m + 1) k nE g ad (c' + 1) = kB (m + 1) k nE g ad c' ++ [c'] := kp_add hb h
              have := hn (c' + 1) (by omega)
              rw [e, List.length_append, List.length_singleton] at this
              omega
            by_cases x : ((n : Nat) : Int) ≤ ((kB (m + 1) k nE g ad c').length : Int)
            · exact if_e x (skip (fun t => by have := full t.2; omega))
            · refine el_e x ?_
              obtain ⟨r5, v1, v2⟩ := coversKept_ok (c := c') hm hk hlen hn2 h5
              refine Ob_e v1 (G_e (by have := isB_01 v2; omega) ?_)
              rcases v2 with ⟨rfl, v2⟩ | ⟨rfl, v2⟩
              · refine el_e (by omega) (skip (fun t => ?_))
                obtain ⟨a, w1, w2⟩ := v2
                exact t.2 a w1 w2
              · refine if_e rfl (G_e (by omega) (Bd_e (Bd_e ?_)))
                have e : kB (m + 1) k nE g ad (c' + 1) = kB (m + 1) k nE g ad c' ++ [c'] := kp_add hb (fun a w1 w2 => v2 ⟨a, w1, w2⟩)
                have hAr : Arr (enB (m + 1) k) (uI least (kB (m + 1) k nE g ad c').length (enB (m + 1) k c')) (kB (m + 1) k nE g ad (c' + 1)) := by
                  rw [e]; exact Arr_add h5 rfl rfl
                have := ih (i + 1) c' _ (by omega) (by omega) c1 h4' hAr
                rw [e, List.length_append, List.length_singleton] at this
                rw [q6]
                exact this
          · exact el_e y (skip (fun t => y (bal.mp t.1)))
  unfold F_X0_find
  refine Bd_e ?_
  have hz : ∀ p, dg (m + 1) k 0 p = 0 := fun p => by
    unfold dg
    rw [Nat.zero_div, Nat.zero_mod]
  have hz2 : dk (m + 1) k 0 = fun _ => 0 := funext fun p => by
    unfold dk
    split
    · exact hz p
    · rfl
  have e1 : kB (m + 1) k nE g ad (0 + 1) = [] := kp_skip (c := 0) (fun q => absurd q.1.1 (by omega))
  have := key NN 1 0 l0 (by have := NN_gt (z := 7000) (by omega); omega) (by omega) (Nat.pow_pos (by omega)) (fun p _ _ => hz p) (by rw [e1]; exact Arr_nil)
  rw [e1] at this
  have z1 : enB (m + 1) k 0 = 0 := by
    unfold enB
    rw [hz2]
    decide
  have z2 : Int64.ofInt (si k (fun i => (dk (m + 1) k 0 i : Int) * gP nE g i)) = 0 := by
    rw [hz2, si_cong (c := fun _ => 0) k (fun i _ => by show ((0 : Nat) : Int) * _ = 0; rw [Int.natCast_zero, Int.zero_mul]), si_zero]
    rfl
  rw [z1, z2] at this
  exact this
