/-! markings as longs: a byte for each place -/
def sp (d : Nat → Nat) : Nat → Nat
  | 0 => 0
  | n + 1 => sp d n + 2 ^ (8 * n) * d n
theorem pow8 (n : Nat) : 2 ^ (8 * (n + 1)) = 2 ^ (8 * n) * 256 := by
  rw [Nat.mul_add, Nat.pow_add]
theorem sp_lt {d : Nat → Nat} : ∀ (n : Nat), (∀ i, i < n → d i < 256) → sp d n < 2 ^ (8 * n)
  | 0, _ => by simp [sp]
  | n + 1, h => by
    have h1 := sp_lt n (fun i hi => h i (by omega))
    have h2 := h n (by omega)
    rw [sp, pow8]
    generalize 2 ^ (8 * n) = B at h1 ⊢
    have : B * d n ≤ B * 255 := Nat.mul_le_mul_left _ (by omega)
    omega
theorem sp_cong {a b : Nat → Nat} : ∀ (n : Nat), (∀ i, i < n → a i = b i) → sp a n = sp b n
  | 0, _ => rfl
  | n + 1, h => by rw [sp, sp, sp_cong n (fun i hi => h i (by omega)), h n (by omega)]
theorem sp_dig {d : Nat → Nat} : ∀ (n p : Nat), (∀ i, i < n → d i < 256) → p < n → sp d n / 2 ^ (8 * p) % 256 = d p
  | 0, p, _, hp => absurd hp (Nat.not_lt_zero p)
  | n + 1, p, h, hp => by
    have hlt := sp_lt n (fun i hi => h i (by omega))
    by_cases e : p = n
    · subst e
      rw [sp, Nat.add_comm, Nat.mul_add_div (Nat.two_pow_pos _), Nat.div_eq_of_lt hlt, Nat.add_zero]
      exact Nat.mod_eq_of_lt (h p (by omega))
    · have ih := sp_dig n p (fun i hi => h i (by omega)) (by omega)
      rw [sp]
      obtain ⟨k, hk⟩ : ∃ k, n = p + 1 + k := ⟨n - (p + 1), by omega⟩
      have e1 : 2 ^ (8 * n) * d n = 2 ^ (8 * p) * (256 * (2 ^ (8 * k) * d n)) := by
        rw [hk, Nat.mul_add, Nat.mul_add, Nat.pow_add, Nat.pow_add]
        simp only [Nat.mul_assoc]
      rw [e1, Nat.add_comm, Nat.mul_add_div (Nat.two_pow_pos _), Nat.mul_add_mod]
      exact ih
theorem sp_inj {a b : Nat → Nat} {n : Nat} (ha : ∀ i, i < n → a i < 256) (hb : ∀ i, i < n → b i < 256) (e : sp a n = sp b n) : ∀ i, i < n → a i = b i := fun i hi => by
  rw [← sp_dig n i ha hi, e, sp_dig n i hb hi]
theorem land_step {k x x' y y' : Nat} (hx : x < 2 ^ k) (hx' : x' < 2 ^ k) : (x + 2 ^ k * y) &&& (x' + 2 ^ k * y') = (x &&& x') + 2 ^ k * (y &&& y') := by
  have h9 : x &&& x' < 2 ^ k := Nat.and_lt_two_pow x hx'
  refine Nat.eq_of_testBit_eq fun i => ?_
  rw [Nat.testBit_and, Nat.add_comm x, Nat.add_comm x', Nat.add_comm (x &&& x'), Nat.testBit_two_pow_mul_add _ hx, Nat.testBit_two_pow_mul_add _ hx', Nat.testBit_two_pow_mul_add _ h9]
  split <;> simp
theorem lor_step {k x x' y y' : Nat} (hx : x < 2 ^ k) (hx' : x' < 2 ^ k) : (x + 2 ^ k * y) ||| (x' + 2 ^ k * y') = (x ||| x') + 2 ^ k * (y ||| y') := by
  have h9 : x ||| x' < 2 ^ k := Nat.or_lt_two_pow hx hx'
  refine Nat.eq_of_testBit_eq fun i => ?_
  rw [Nat.testBit_or, Nat.add_comm x, Nat.add_comm x', Nat.add_comm (x ||| x'), Nat.testBit_two_pow_mul_add _ hx, Nat.testBit_two_pow_mul_add _ hx', Nat.testBit_two_pow_mul_add _ h9]
  split <;> simp
theorem sp_and {a b : Nat → Nat} : ∀ (n : Nat), (∀ i, i < n → a i < 256) → (∀ i, i < n → b i < 256) → sp a n &&& sp b n = sp (fun i => a i &&& b i) n
  | 0, _, _ => by simp [sp]
  | n + 1, ha, hb => by
    rw [sp, sp, sp, ← sp_and n (fun i hi => ha i (by omega)) (fun i hi => hb i (by omega)), land_step (sp_lt n (fun i hi => ha i (by omega))) (sp_lt n (fun i hi => hb i (by omega)))]
theorem sp_or {a b : Nat → Nat} : ∀ (n : Nat), (∀ i, i < n → a i < 256) → (∀ i, i < n → b i < 256) → sp a n ||| sp b n = sp (fun i => a i ||| b i) n
  | 0, _, _ => by simp [sp]
  | n + 1, ha, hb => by
    rw [sp, sp, sp, ← sp_or n (fun i hi => ha i (by omega)) (fun i hi => hb i (by omega)), lor_step (sp_lt n (fun i hi => ha i (by omega))) (sp_lt n (fun i hi => hb i (by omega)))]
theorem sp_add {a b : Nat → Nat} : ∀ (n : Nat), sp a n + sp b n = sp (fun i => a i + b i) n
  | 0 => rfl
  | n + 1 => by
    rw [sp, sp, sp, ← sp_add n, Nat.mul_add]
    omega
theorem sp_sub {a b : Nat → Nat} : ∀ (n : Nat), (∀ i, i < n → b i ≤ a i) → sp a n - sp b n = sp (fun i => a i - b i) n ∧ sp b n ≤ sp a n
  | 0, _ => ⟨rfl, Nat.le_refl _⟩
  | n + 1, h => by
    obtain ⟨h1, h2⟩ := sp_sub n (fun i hi => h i (by omega))
    have h3 : 2 ^ (8 * n) * b n ≤ 2 ^ (8 * n) * a n := Nat.mul_le_mul_left _ (h n (by omega))
    rw [sp, sp, sp, ← h1, Nat.mul_sub]
    omega
theorem lor_new {n x d : Nat} (hx : x < 2 ^ (8 * n)) : x ||| 2 ^ (8 * n) * d = x + 2 ^ (8 * n) * d := by
  have h := lor_step (k := 8 * n) (x := x) (x' := 0) (y := 0) (y' := d) hx (Nat.two_pow_pos _)
  simpa using h
/-- the marking of the tokens t -/
def pkd (t : Int → Int) : Nat → Nat := fun i => (t (i : Int)).toNat
def pk (t : Int → Int) : Int64 := lN (sp (pkd t) 6)
theorem pk_cong {t u : Int → Int} (h : ∀ p : Int, 0 ≤ p → p < 6 → t p = u p) : pk t = pk u := by
  unfold pk
  exact congrArg lN (sp_cong 6 (fun i hi => by unfold pkd; rw [h i (by omega) (by omega)]))
def bOk (b : Int) (t : Int → Int) : Prop := ∀ p : Int, 0 ≤ p → p < 6 → 0 ≤ t p ∧ t p < b
theorem pkd_lt {b : Int} {t : Int → Int} (h : bOk b t) (hb : b ≤ 256) : ∀ i, i < 6 → pkd t i < 256 := fun i hi => by
  have := h i (by omega) (by omega)
  unfold pkd
  omega
theorem sp6_lt {d : Nat → Nat} (h : ∀ i, i < 6 → d i < 256) : sp d 6 < 281474976710656 := sp_lt 6 h
theorem lN_inj {a b : Nat} (ha : a < 2 ^ 63) (hb : b < 2 ^ 63) (e : lN a = lN b) : a = b := (pk_lEQ ha hb).mp e
theorem pk_inj {t u : Int → Int} (ht : bOk 256 t) (hu : bOk 256 u) (e : pk t = pk u) : ∀ p : Int, 0 ≤ p → p < 6 → t p = u p := by
  intro p h1 h2
  have l1 := sp6_lt (pkd_lt ht (by omega))
  have l2 := sp6_lt (pkd_lt hu (by omega))
  have e1 := sp_inj (pkd_lt ht (by omega)) (pkd_lt hu (by omega)) (lN_inj (by omega) (by omega) e) p.toNat (by omega)
  have a1 := ht p h1 h2
  have a2 := hu p h1 h2
  unfold pkd at e1
  rw [show ((p.toNat : Nat) : Int) = p by omega] at e1
  omega
theorem vI_nat {z : Int} (h : 0 ≤ z) : vI z = nI z.toNat := by
  unfold vI nI
  rw [← Int32.ofInt_eq_ofNat, show ((z.toNat : Nat) : Int) = z by omega]
theorem lI_nat {z : Int} (h : 0 ≤ z) (h2 : z < 2147483648) : lI z = lN z.toNat := by
  unfold lI
  rw [vI_nat h, nI_l (by omega)]
theorem lShl_ok {x : Nat} {b : Int} (h : 0 ≤ b) (hb : b < 64) : lShl (lN x) b = lN (x * 2 ^ b.toNat) := by
  unfold lShl
  rw [vI_nat h]
  exact wb_shl x (by omega)
theorem lShr_ok {x : Nat} {b : Int} (hx : x < 2 ^ 62) (h : 0 ≤ b) (hb : b < 64) : lShr (lN x) b = lN (x / 2 ^ b.toNat) := by
  unfold lShr
  rw [vI_nat h]
  refine pf_shr ?_ hx
  rw [wb_c b.toNat (by omega), wb_tb, wb_sm b.toNat (by omega)]
  simp
  omega
theorem lToI_ok {x : Nat} (h : x < 2 ^ 31) : lToI (lN x) = (x : Int) := by
  unfold lToI
  rw [lN_i, nI_toInt h]
theorem tokensIn_ok {t : Int → Int} {p : Int} (ht : bOk 256 t) (hp : 0 ≤ p ∧ p < 6) : F_X3_tokensIn (pk t) p = some (t p) := by
  unfold F_X3_tokensIn
  have h1 := sp6_lt (pkd_lt ht (by omega))
  have h2 := sp_dig 6 p.toNat (pkd_lt ht (by omega)) (by omega)
  unfold pk
  rw [lShr_ok (by omega) (by omega) (by omega), show (255 : Int64) = lN (2 ^ 8 - 1) by decide, wb_mask (by have := Nat.div_le_self (sp (pkd t) 6) (2 ^ (8 * p).toNat); omega) (by omega)]
  rw [show (8 * p).toNat = 8 * p.toNat by omega, show 2 ^ 8 = 256 from rfl, h2]
  have a1 := ht p hp.1 hp.2
  unfold pkd
  rw [show ((p.toNat : Nat) : Int) = p by omega, lToI_ok (by omega)]
  congr 1
  omega
theorem dig_and : ∀ x : Nat, x < 256 → x &&& 128 = if 128 ≤ x then 128 else 0 := by decide +kernel
theorem dig_or : ∀ x : Nat, x < 128 → x ||| 128 = x + 128 := by decide +kernel
/-- isAtMost: each byte of the one at most that of the other -/
theorem isAtMost_ok {t u : Int → Int} (ht : bOk 128 t) (hu : bOk 128 u) : ∃ r, F_X3_isAtMost (pk t) (pk u) = some r ∧ isB r (∀ p : Int, 0 ≤ p → p < 6 → t p ≤ u p) := by
  have dt : ∀ i, i < 6 → pkd t i < 128 := fun i hi => by have := ht i (by omega) (by omega); unfold pkd; omega
  have du : ∀ i, i < 6 → pkd u i < 128 := fun i hi => by have := hu i (by omega) (by omega); unfold pkd; omega
  have lt6 := sp6_lt (d := pkd t) (fun i hi => by have := dt i hi; omega)
  have lu6 := sp6_lt (d := pkd u) (fun i hi => by have := du i hi; omega)
  have eg : (141289400074368 : Int64) = lN (sp (fun _ => 128) 6) := by decide
  have lg := sp6_lt (d := fun _ => 128) (fun i hi => by omega)
  have e1 : pk u ||| lN (sp (fun _ => 128) 6) = lN (sp (fun i => pkd u i + 128) 6) := by
    unfold pk
    rw [wb_or (by omega) (by omega), sp_or 6 (fun i hi => by have := du i hi; omega) (fun i hi => by omega)]
    rw [sp_cong 6 (fun i hi => dig_or _ (du i hi))]
  have hs := sp_sub (a := fun i => pkd u i + 128) (b := pkd t) 6 (fun i hi => by have := dt i hi; omega)
  have e2 : lN (sp (fun i => pkd u i + 128) 6) - pk t = lN (sp (fun i => pkd u i + 128 - pkd t i) 6) := by
    unfold pk
    rw [lN_sub hs.2, hs.1]
  have l3 := sp6_lt (d := fun i => pkd u i + 128 - pkd t i) (fun i hi => by have := du i hi; omega)
  have e3 : lN (sp (fun i => pkd u i + 128 - pkd t i) 6) &&& lN (sp (fun _ => 128) 6) = lN (sp (fun i => if 128 ≤ pkd u i + 128 - pkd t i then 128 else 0) 6) := by
    rw [wb_and (by omega) (by omega), sp_and 6 (fun i hi => by have := du i hi; omega) (fun i hi => by omega)]
    rw [sp_cong 6 (fun i hi => dig_and _ (by have := du i hi; omega))]
  have l4 := sp6_lt (d := fun i => if 128 ≤ pkd u i + 128 - pkd t i then 128 else 0) (fun i hi => by split <;> omega)
  have iff : lN (sp (fun i => if 128 ≤ pkd u i + 128 - pkd t i then 128 else 0) 6) = lN (sp (fun _ => 128) 6) ↔ ∀ p : Int, 0 ≤ p → p < 6 → t p ≤ u p := by
    constructor
    · intro e p h1 h2
      have := sp_inj (fun i hi => by split <;> omega) (fun i hi => by omega) (lN_inj (by omega) (by omega) e) p.toNat (by omega)
      have a1 := ht p h1 h2
      have a2 := hu p h1 h2
      unfold pkd at this
      rw [show ((p.toNat : Nat) : Int) = p by omega] at this
      split at this <;> omega
    · intro h
      rw [sp_cong 6 (fun i hi => ?_)]
      have a1 := h i (by omega) (by omega)
      have a2 := ht i (by omega) (by omega)
      unfold pkd
      rw [if_pos (by omega)]
  unfold F_X3_isAtMost
  rw [eg, e1, e2, e3]
  by_cases c : lN (sp (fun i => if 128 ≤ pkd u i + 128 - pkd t i then 128 else 0) 6) = lN (sp (fun _ => 128) 6)
  · refine if_e c ?_
    (repeat (first | (with_reducible refine Bd_e ?_) | (with_reducible refine G_e ?_ ?_; · omega) | (with_reducible refine if_e ?_ ?_; · omega) | (with_reducible refine el_e ?_ ?_; · omega)))
    exact so_e (Or.inl ⟨rfl, iff.mp c⟩)
  · refine el_e c ?_
    (repeat (first | (with_reducible refine Bd_e ?_) | (with_reducible refine G_e ?_ ?_; · omega) | (with_reducible refine if_e ?_ ?_; · omega) | (with_reducible refine el_e ?_ ?_; · omega)))
    exact so_e (Or.inr ⟨rfl, fun z => c (iff.mpr z)⟩)
