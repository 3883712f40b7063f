/-! numbers of small digits: radix eight for the class, radix B for the reference -/
def sq (d : Nat → Nat) : Nat → Nat
  | 0 => 0
  | n + 1 => sq d n + 2 ^ (3 * n) * d n
theorem pow3 (n : Nat) : 2 ^ (3 * (n + 1)) = 2 ^ (3 * n) * 8 := by
  rw [Nat.mul_add, Nat.pow_add]
theorem sq_lt {d : Nat → Nat} : ∀ (n : Nat), (∀ i, i < n → d i < 8) → sq d n < 2 ^ (3 * n)
  | 0, _ => by simp [sq]
  | n + 1, h => by
    have h1 := sq_lt n (fun i hi => h i (by omega))
    have h2 := h n (by omega)
    rw [sq, pow3]
    generalize 2 ^ (3 * n) = B at h1 ⊢
    have : B * d n ≤ B * 7 := Nat.mul_le_mul_left _ (by omega)
    omega
theorem sq_cong {a b : Nat → Nat} : ∀ (n : Nat), (∀ i, i < n → a i = b i) → sq a n = sq b n
  | 0, _ => rfl
  | n + 1, h => by rw [sq, sq, sq_cong n (fun i hi => h i (by omega)), h n (by omega)]
theorem sq_dig {d : Nat → Nat} : ∀ (n p : Nat), (∀ i, i < n → d i < 8) → p < n → sq d n / 2 ^ (3 * p) % 8 = d p
  | 0, p, _, hp => absurd hp (Nat.not_lt_zero p)
  | n + 1, p, h, hp => by
    have hlt := sq_lt n (fun i hi => h i (by omega))
    by_cases e : p = n
    · subst e
      rw [sq, Nat.add_comm, Nat.mul_add_div (Nat.two_pow_pos _), Nat.div_eq_of_lt hlt, Nat.add_zero]
      exact Nat.mod_eq_of_lt (h p (by omega))
    · have ih := sq_dig n p (fun i hi => h i (by omega)) (by omega)
      rw [sq]
      obtain ⟨k, hk⟩ : ∃ k, n = p + 1 + k := ⟨n - (p + 1), by omega⟩
      have e1 : 2 ^ (3 * n) * d n = 2 ^ (3 * p) * (8 * (2 ^ (3 * k) * d n)) := by
        rw [hk, Nat.mul_add, Nat.mul_add, Nat.pow_add, Nat.pow_add]
        simp only [Nat.mul_assoc]
      rw [e1, Nat.add_comm, Nat.mul_add_div (Nat.two_pow_pos _), Nat.mul_add_mod]
      exact ih
theorem sq_inj {a b : Nat → Nat} {n : Nat} (ha : ∀ i, i < n → a i < 8) (hb : ∀ i, i < n → b i < 8) (e : sq a n = sq b n) : ∀ i, i < n → a i = b i := fun i hi => by
  rw [← sq_dig n i ha hi, e, sq_dig n i hb hi]
theorem sq_and {a b : Nat → Nat} : ∀ (n : Nat), (∀ i, i < n → a i < 8) → (∀ i, i < n → b i < 8) → sq a n &&& sq b n = sq (fun i => a i &&& b i) n
  | 0, _, _ => by simp [sq]
  | n + 1, ha, hb => by
    rw [sq, sq, sq, ← sq_and n (fun i hi => ha i (by omega)) (fun i hi => hb i (by omega)), land_step (sq_lt n (fun i hi => ha i (by omega))) (sq_lt n (fun i hi => hb i (by omega)))]
theorem sq_or {a b : Nat → Nat} : ∀ (n : Nat), (∀ i, i < n → a i < 8) → (∀ i, i < n → b i < 8) → sq a n ||| sq b n = sq (fun i => a i ||| b i) n
  | 0, _, _ => by simp [sq]
  | n + 1, ha, hb => by
    rw [sq, sq, sq, ← sq_or n (fun i hi => ha i (by omega)) (fun i hi => hb i (by omega)), lor_step (sq_lt n (fun i hi => ha i (by omega))) (sq_lt n (fun i hi => hb i (by omega)))]
theorem sq_add {a b : Nat → Nat} : ∀ (n : Nat), sq a n + sq b n = sq (fun i => a i + b i) n
  | 0 => rfl
  | n + 1 => by
    rw [sq, sq, sq, ← sq_add n, Nat.mul_add]
    omega
theorem sq_sub {a b : Nat → Nat} : ∀ (n : Nat), (∀ i, i < n → b i ≤ a i) → sq a n - sq b n = sq (fun i => a i - b i) n ∧ sq b n ≤ sq a n
  | 0, _ => ⟨rfl, Nat.le_refl _⟩
  | n + 1, h => by
    obtain ⟨h1, h2⟩ := sq_sub n (fun i hi => h i (by omega))
    have h3 : 2 ^ (3 * n) * b n ≤ 2 ^ (3 * n) * a n := Nat.mul_le_mul_left _ (h n (by omega))
    rw [sq, sq, sq, ← h1, Nat.mul_sub]
    omega
/-- the code of digits, the first one highest -/
def cod (B : Nat) (d : Nat → Nat) : Nat → Nat
  | 0 => 0
  | p + 1 => cod B d p * B + d p
theorem cod_cong {B : Nat} {d e : Nat → Nat} : ∀ (k : Nat), (∀ p, p < k → d p = e p) → cod B d k = cod B e k
  | 0, _ => rfl
  | k + 1, h => by rw [cod, cod, cod_cong k (fun p hp => h p (by omega)), h k (by omega)]
theorem cod_le {B : Nat} {d e : Nat → Nat} : ∀ (k : Nat), (∀ p, p < k → d p ≤ e p) → cod B d k ≤ cod B e k
  | 0, _ => Nat.le_refl _
  | k + 1, h => by
    rw [cod, cod]
    exact Nat.add_le_add (Nat.mul_le_mul_right _ (cod_le k (fun p hp => h p (by omega)))) (h k (by omega))
theorem cod_lt {B : Nat} {d : Nat → Nat} : ∀ (k : Nat), (∀ p, p < k → d p < B) → cod B d k < B ^ k
  | 0, _ => by rw [cod]; exact Nat.one_pos
  | k + 1, h => by
    have h1 := cod_lt k (fun p hp => h p (by omega))
    have h2 := h k (by omega)
    rw [cod, Nat.pow_succ]
    have h3 : cod B d k * B + B ≤ B ^ k * B := by
      rw [show cod B d k * B + B = (cod B d k + 1) * B by rw [Nat.add_mul, Nat.one_mul]]
      exact Nat.mul_le_mul_right _ h1
    omega
/-- from a place on -/
theorem cod_from {B : Nat} {d e : Nat → Nat} {i : Nat} (h : cod B d i ≤ cod B e i) : ∀ (j : Nat), (∀ p, i ≤ p → p < i + j → d p ≤ e p) → cod B d (i + j) ≤ cod B e (i + j)
  | 0, _ => h
  | j + 1, hp => by
    rw [← Nat.add_assoc, cod, cod]
    exact Nat.add_le_add (Nat.mul_le_mul_right _ (cod_from h j (fun p h1 h2 => hp p h1 (by omega)))) (hp (i + j) (by omega) (by omega))
theorem cod_split {B : Nat} {d : Nat → Nat} (hB : 0 < B) : ∀ (k q : Nat), (∀ p, p < k → d p < B) → q ≤ k → cod B d k / B ^ (k - q) = cod B d q
  | 0, q, _, hq => by
    obtain rfl : q = 0 := by omega
    rw [Nat.sub_self, Nat.pow_zero, Nat.div_one]
  | k + 1, q, h, hq => by
    by_cases e : q = k + 1
    · rw [e, Nat.sub_self, Nat.pow_zero, Nat.div_one]
    · rw [show k + 1 - q = 1 + (k - q) by omega, Nat.pow_add, Nat.pow_one, ← Nat.div_div_eq_div_mul, cod, Nat.mul_comm, Nat.mul_add_div hB, Nat.div_eq_of_lt (h k (by omega)), Nat.add_zero]
      exact cod_split hB k q (fun p hp => h p (by omega)) (by omega)
/-- the digit at a place -/
def dg (B k c p : Nat) : Nat := c / B ^ (k - 1 - p) % B
theorem dg_lt {B k c p : Nat} (hB : 0 < B) : dg B k c p < B := Nat.mod_lt _ hB
theorem dg_cod {B k p : Nat} {d : Nat → Nat} (hB : 0 < B) (h : ∀ p, p < k → d p < B) (hp : p < k) : dg B k (cod B d k) p = d p := by
  unfold dg
  rw [show k - 1 - p = k - (p + 1) by omega, cod_split hB k (p + 1) h (by omega), cod, Nat.mul_comm, Nat.mul_add_mod, Nat.mod_eq_of_lt (h p hp)]
theorem cod_dg {B k c : Nat} (hB : 0 < B) (hc : c < B ^ k) : cod B (dg B k c) k = c := by
  have key : ∀ q, q ≤ k → cod B (dg B k c) q = c / B ^ (k - q) := by
    intro q
    induction q with
    | zero =>
      intro _
      rw [cod, Nat.sub_zero, Nat.div_eq_of_lt hc]
    | succ q ih =>
      intro hq
      rw [cod, ih (by omega)]
      unfold dg
      rw [show k - q = (k - (q + 1)) + 1 by omega, Nat.pow_succ, ← Nat.div_div_eq_div_mul, show k - 1 - q = k - (q + 1) by omega]
      exact Nat.div_add_mod' _ _
  rw [key k (Nat.le_refl _), Nat.sub_self, Nat.pow_zero, Nat.div_one]
theorem dg_inj {B k a b : Nat} (hB : 0 < B) (ha : a < B ^ k) (hb : b < B ^ k) (h : ∀ p, p < k → dg B k a p = dg B k b p) : a = b := by
  rw [← cod_dg hB ha, ← cod_dg hB hb]
  exact cod_cong k h
theorem dg_le {B k a b : Nat} (hB : 0 < B) (ha : a < B ^ k) (hb : b < B ^ k) (h : ∀ p, p < k → dg B k a p ≤ dg B k b p) : a ≤ b := by
  rw [← cod_dg hB ha, ← cod_dg hB hb]
  exact cod_le k h
/-! sums -/
def si : Nat → (Nat → Int) → Int
  | 0, _ => 0
  | n + 1, f => si n f + f n
theorem si_cong {a c : Nat → Int} : ∀ (n : Nat), (∀ i, i < n → a i = c i) → si n a = si n c
  | 0, _ => rfl
  | n + 1, h => by rw [si, si, si_cong n (fun i hi => h i (by omega)), h n (by omega)]
theorem si_zero : ∀ (n : Nat), si n (fun _ => 0) = 0
  | 0 => rfl
  | n + 1 => by rw [si, si_zero n]; rfl
theorem si_add (a c : Nat → Int) : ∀ (n : Nat), si n (fun b => a b + c b) = si n a + si n c
  | 0 => rfl
  | n + 1 => by rw [si, si, si, si_add a c n]; omega
theorem si_mul (x : Int) (a : Nat → Int) : ∀ (n : Nat), si n (fun b => a b * x) = si n a * x
  | 0 => by rw [si, si, Int.zero_mul]
  | n + 1 => by rw [si, si, si_mul x a n, Int.add_mul]
theorem si_swap (a : Nat → Nat → Int) (n : Nat) : ∀ (k : Nat), si k (fun i => si n (fun j => a i j)) = si n (fun j => si k (fun i => a i j))
  | 0 => (si_zero n).symm
  | k + 1 => by
    rw [si, si_swap a n k, ← si_add]
    rfl
theorem si_le {a : Nat → Int} {M : Int} : ∀ (n : Nat), (∀ i, i < n → -M ≤ a i ∧ a i ≤ M) → -(n * M) ≤ si n a ∧ si n a ≤ n * M
  | 0, _ => by rw [si]; omega
  | n + 1, h => by
    have h1 := si_le n (fun i hi => h i (by omega))
    have h2 := h n (by omega)
    rw [si, show ((n + 1 : Nat) : Int) * M = n * M + M by rw [Int.natCast_add, Int.add_mul]; omega]
    omega
/-- one digit changed -/
theorem si_upd {a : Nat → Int} {i : Nat} {x : Int} : ∀ (n : Nat), i < n → si n (uI a i x) = si n a - a i + x
  | 0, h => absurd h (Nat.not_lt_zero i)
  | n + 1, h => by
    rw [si, si]
    by_cases e : i = n
    · subst e
      have e9 : si i (uI a i x) = si i a := si_cong i (fun j hj => uI_ne a x (by omega))
      rw [uI_same, e9]
      omega
    · rw [uI_ne a x (by omega), si_upd n (by omega)]
      omega
/-- packed sums, eight bits apart -/
theorem si_256 {s : Nat → Int} : ∀ (n : Nat), (∀ j, j < n → -127 ≤ s j ∧ s j ≤ 127) → si n (fun j => s j * 256 ^ j) = 0 → ∀ j, j < n → s j = 0 := by
  intro n
  induction n generalizing s with
  | zero => intro _ _ j hj; exact absurd hj (Nat.not_lt_zero j)
  | succ n ih =>
    intro h h0 j hj
    have e : ∀ m : Nat, si (m + 1) (fun j => s j * 256 ^ j) = s 0 + 256 * si m (fun j => s (j + 1) * 256 ^ j) := by
      intro m
      induction m with
      | zero => rw [si, si, si]; omega
      | succ m im =>
        rw [si, im, si, Int.mul_add]
        have : s (m + 1) * 256 ^ (m + 1) = 256 * (s (m + 1) * 256 ^ m) := by
          rw [Int.pow_succ, ← Int.mul_assoc, Int.mul_comm _ 256]
        omega
    have e0 := e n
    rw [h0] at e0
    have b0 := h 0 (by omega)
    have z0 : s 0 = 0 := by omega
    have z1 : si n (fun j => s (j + 1) * 256 ^ j) = 0 := by omega
    cases j with
    | zero => exact z0
    | succ j => exact ih (s := fun j => s (j + 1)) (fun q hq => h (q + 1) (by omega)) z1 j (by omega)
