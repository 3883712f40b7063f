/-! the least balances: what they are, in codes -/
def bS (B k nE : Nat) (g : Nat → Nat → Int) (ad : Nat → Prop) (c : Nat) : Prop := 1 ≤ c ∧ (∀ p, p < k → ¬ ad p → dg B k c p = 0) ∧ ∀ j, j < nE → si k (fun i => (dg B k c i : Int) * g j i) = 0
def bB (B k : Nat) (a b : Nat) : Prop := ∀ p, p < k → dg B k a p ≤ dg B k b p
noncomputable def kB (B k nE : Nat) (g : Nat → Nat → Int) (ad : Nat → Prop) (c : Nat) : List Nat := kp (bS B k nE g ad) (bB B k) c
/-- digits, none behind the width -/
def dk (B k c : Nat) : Nat → Nat := fun p => if p < k then dg B k c p else 0
def enB (B k : Nat) (c : Nat) : Int := ((sq (dk B k c) 8 : Nat) : Int)
theorem dk_in {B k c p : Nat} (h : p < k) : dk B k c p = dg B k c p := if_pos h
theorem dk_out {B k c p : Nat} (h : k ≤ p) : dk B k c p = 0 := if_neg (by omega)
theorem dk_le {m k c p : Nat} : dk (m + 1) k c p ≤ m := by
  unfold dk
  split
  · have := dg_lt (B := m + 1) (k := k) (c := c) (p := p) (by omega)
    omega
  · omega
theorem kB_len {m k nE K c : Nat} {g : Nat → Nat → Int} {ad : Nat → Prop} (hc : c ≤ (m + 1) ^ k) (hK : k ≤ K) : (kB (m + 1) k nE g ad c).length ≤ nb m K 0 := by
  have h1 : (kB (m + 1) k nE g ad c).length = ((kB (m + 1) k nE g ad c).map (dk (m + 1) k)).length := (List.length_map _).symm
  rw [h1]
  refine anti_len _ (fun v hv p _ => ?_) (List.pairwise_map.mpr (List.Pairwise.imp_of_mem ?_ (kp_pw (S := bS (m + 1) k nE g ad) (bel := bB (m + 1) k) c)))
  · obtain ⟨s, -, rfl⟩ := List.mem_map.mp hv
    exact dk_le
  · intro a b ha hb h
    have la := (kp_mem _ a ha).1
    have lb := (kp_mem _ b hb).1
    have out : ∀ x y : Nat, ¬ bB (m + 1) k x y → ∃ p, p < K ∧ dk (m + 1) k y p < dk (m + 1) k x p := fun x y hn =>
      Classical.byContradiction fun z => hn fun p hp => Decidable.byContradiction fun q => z ⟨p, by omega, by rw [dk_in hp, dk_in hp]; omega⟩
    refine ⟨out a b h.2, out b a (fun z => ?_)⟩
    have := dg_le (by omega) (by omega) (by omega) z
    omega
/-! the class's vectors -/
theorem sq8_lt {d : Nat → Nat} (h : ∀ i, i < 8 → d i < 8) : sq d 8 < 16777216 := sq_lt 8 h
theorem sq_upd {d e : Nat → Nat} {j : Nat} (h : ∀ p, p ≠ j → e p = d p) : ∀ (n : Nat), j < n → sq e n + 2 ^ (3 * j) * d j = sq d n + 2 ^ (3 * j) * e j
  | 0, hj => absurd hj (Nat.not_lt_zero j)
  | n + 1, hj => by
    rw [sq, sq]
    by_cases q : j = n
    · subst q
      have : sq e j = sq d j := sq_cong j (fun i hi => h i (by omega))
      rw [this]
      omega
    · have := sq_upd h n (by omega)
      rw [h n (by omega)]
      omega
theorem vdig_ok {d : Nat → Nat} {p : Nat} (h : ∀ i, i < 8 → d i < 8) (hp : p < 8) : iAnd (iShr ((sq d 8 : Nat) : Int) (3 * (p : Int))) 7 = ((d p : Nat) : Int) := by
  have h1 := sq8_lt h
  have h2 : iShr ((sq d 8 : Nat) : Int) ((3 * p : Nat) : Int) = _ := iShr_n (by omega) (by omega)
  have h3 : iAnd ((sq d 8 / 2 ^ (3 * p) : Nat) : Int) ((7 : Nat) : Int) = _ := iAnd_n (by have := Nat.div_le_self (sq d 8) (2 ^ (3 * p)); omega)
  rw [show (3 * (p : Int)) = ((3 * p : Nat) : Int) by omega, h2, show (7 : Int) = ((7 : Nat) : Int) from rfl, h3, show (7 : Nat) = 2 ^ 3 - 1 from rfl, Nat.and_two_pow_sub_one_eq_mod]
  exact congrArg _ (sq_dig 8 p h hp)
theorem vshl_ok : ∀ x : Nat, x < 8 → ∀ j : Nat, j < 8 → iShl (x : Int) (3 * (j : Int)) = ((2 ^ (3 * j) * x : Nat) : Int) := by decide +kernel
theorem lI_of {z : Int} : lI z = Int64.ofInt (vI z).toInt := (Int64.ofInt_int32ToInt (vI z)).symm
theorem lI_z {z : Int} (h : inR z) : lI z = Int64.ofInt z := by rw [lI_of, vI_toInt h]
theorem dig4_and : ∀ x : Nat, x < 8 → x &&& 4 = if 4 ≤ x then 4 else 0 := by decide +kernel
theorem dig4_or : ∀ x : Nat, x < 4 → x ||| 4 = x + 4 := by decide +kernel
/-- the guarded difference tells whether each number is at most -/
theorem guard_ok {d e : Nat → Nat} (hd : ∀ i, i < 8 → d i < 4) (he : ∀ i, i < 8 → e i < 4) : (iOr ((sq d 8 : Nat) : Int) 9586980 = ((sq (fun i => d i + 4) 8 : Nat) : Int)) ∧ (inR (iAnd (((sq (fun i => d i + 4) 8 : Nat) : Int) - ((sq e 8 : Nat) : Int)) 9586980)) ∧ (iAnd (((sq (fun i => d i + 4) 8 : Nat) : Int) - ((sq e 8 : Nat) : Int)) 9586980 = 9586980 ↔ ∀ i, i < 8 → e i ≤ d i) := by
  have eg : (9586980 : Nat) = sq (fun _ => 4) 8 := by decide
  have l1 := sq8_lt (d := d) (fun i hi => by have := hd i hi; omega)
  have l2 := sq8_lt (d := fun i => d i + 4) (fun i hi => by have := hd i hi; omega)
  have hs := sq_sub (a := fun i => d i + 4) (b := e) 8 (fun i hi => by have := he i hi; omega)
  have l3 := sq8_lt (d := fun i => d i + 4 - e i) (fun i hi => by have := hd i hi; omega)
  have a1 : sq d 8 ||| 9586980 = sq (fun i => d i + 4) 8 := by
    rw [eg, sq_or 8 (fun i hi => by have := hd i hi; omega) (fun i _ => by omega)]
    exact sq_cong 8 (fun i hi => dig4_or _ (hd i hi))
  have a2 : sq (fun i => d i + 4 - e i) 8 &&& 9586980 = sq (fun i => if 4 ≤ d i + 4 - e i then 4 else 0) 8 := by
    rw [eg, sq_and 8 (fun i hi => by have := hd i hi; omega) (fun i _ => by omega)]
    exact sq_cong 8 (fun i hi => dig4_and _ (by have := hd i hi; omega))
  have b2 : iAnd (((sq (fun i => d i + 4) 8 : Nat) : Int) - ((sq e 8 : Nat) : Int)) 9586980 = ((sq (fun i => if 4 ≤ d i + 4 - e i then 4 else 0) 8 : Nat) : Int) := by
    rw [show ((sq (fun i => d i + 4) 8 : Nat) : Int) - ((sq e 8 : Nat) : Int) = ((sq (fun i => d i + 4 - e i) 8 : Nat) : Int) by have := hs.1; have := hs.2; omega, ← a2]
    exact iAnd_n (b := 9586980) (by omega)
  have l4 := sq8_lt (d := fun i => if 4 ≤ d i + 4 - e i then 4 else 0) (fun i hi => by split <;> omega)
  refine ⟨?_, ?_, ?_⟩
  · rw [← a1]
    exact iOr_n (b := 9586980) (by omega) (by omega)
  · rw [b2]
    exact ⟨by omega, by omega⟩
  · rw [b2]
    constructor
    · intro h i hi
      have h9 : sq (fun i => if 4 ≤ d i + 4 - e i then 4 else 0) 8 = sq (fun _ => 4) 8 := by omega
      have := sq_inj (fun i hi => by split <;> omega) (fun i _ => by omega) h9 i hi
      split at this <;> omega
    · intro h
      rw [sq_cong (b := fun _ => 4) 8 (fun i hi => if_pos (by have := h i hi; omega)), ← eg]
      rfl
theorem coversKept_ok {m k n c : Nat} {l : List Nat} {least : Nat → Int} (hm : m ≤ 3) (hk : k ≤ 8) (hl : l.length ≤ n) (hn : n ≤ 2000) (ha : Arr (enB (m + 1) k) least l) :
    ∃ r, F_X0_coversKept n (enB (m + 1) k c) (l.length : Int) least = some r ∧ isB r (∃ a, a ∈ l ∧ bB (m + 1) k a c) := by
  have hdk : ∀ x i, i < 8 → dk (m + 1) k x i < 4 := fun x i _ => by have := dk_le (m := m) (k := k) (c := x) (p := i); omega
  have hg := fun x => guard_ok (hdk c) (hdk x)
  have key : ∀ (fu i : Nat), i ≤ l.length → l.length - i < fu → (∀ (j : Nat) (h : j < l.length), j < i → ¬ bB (m + 1) k l[j] c) → ∃ r, F_X0_coversKept_b10 n (enB (m + 1) k c) (l.length : Int) least fu ((sq (fun i => dk (m + 1) k c i + 4) 8 : Nat) : Int) (i : Int) = some r ∧ isB r (∃ a, a ∈ l ∧ bB (m + 1) k a c) := by
    intro fu
    induction fu with
    | zero => intro i h1 h2; exact absurd h2 (by omega)
    | succ fu ih =>
      intro i h1 h2 h3
      show ∃ r, F_X0_coversKept_b10_body n (enB (m + 1) k c) (l.length : Int) least (F_X0_coversKept_b10 n (enB (m + 1) k c) (l.length : Int) least fu) _ (i : Int) = some r ∧ _
      unfold F_X0_coversKept_b10_body
      refine G_e (by omega) ?_
      by_cases z : (l.length : Int) ≤ i
      · refine if_e z (G_e (Or.inl rfl) (so_e (Or.inr ⟨rfl, fun ⟨a, k1, k2⟩ => ?_⟩)))
        obtain ⟨j, hj, rfl⟩ := List.getElem_of_mem k1
        exact h3 j hj (by omega) k2
      · have hi : i < l.length := by omega
        obtain ⟨-, g2, g3⟩ := hg l[i]
        refine el_e z (G_e (by omega) (Bd_e ?_))
        rw [Int.toNat_natCast, ha i hi]
        refine Bd_e (G_e ⟨g2, by omega⟩ ?_)
        by_cases y : iAnd (((sq (fun i => dk (m + 1) k c i + 4) 8 : Nat) : Int) - enB (m + 1) k l[i]) 9586980 = 9586980
        · refine if_e y (G_e (Or.inr rfl) (so_e (Or.inl ⟨rfl, l[i], List.getElem_mem hi, fun p hp => ?_⟩)))
          have := g3.mp y p (by omega)
          rw [dk_in hp, dk_in hp] at this
          exact this
        · refine el_e y (Bd_e ?_)
          refine ih (i + 1) (by omega) (by omega) (fun j hj h => ?_)
          by_cases e : j = i
          · subst e
            refine fun q => y (g3.mpr fun p _ => ?_)
            by_cases hp : p < k
            · rw [dk_in hp, dk_in hp]; exact q p hp
            · rw [dk_out (by omega)]; exact Nat.zero_le _
          · exact h3 j hj (by omega)
  unfold F_X0_coversKept
  unfold enB at key ⊢
  refine Bd_e ?_
  rw [(hg 0).1]
  exact key NN 0 (Nat.zero_le _) (by have := NN_gt (z := 3000) (by omega); omega) (fun j _ h => absurd h (Nat.not_lt_zero j))
/-- the digits behind one that is raised are none -/
def lo (d : Nat → Nat) (i : Nat) : Nat → Nat := fun p => if p < i then d p else 0
def nx (d : Nat → Nat) (i : Nat) : Nat → Nat := fun p => if p < i then d p else if p = i then d p + 1 else 0
theorem advance_ok {m k : Nat} {d : Nat → Nat} {col : Nat → Int64} {adm : Nat → Int} {G : Nat → Int} (hm : m ≤ 3) (hk : k ≤ 8) (hd : ∀ p, p < k → d p ≤ m) (h0 : ∀ p, k ≤ p → d p = 0) (hA : ∀ p, p < k → adm p = 0 ∨ adm p = 1) (hz : ∀ p, p < k → adm p = 0 → d p = 0) (hc : ∀ p, p < k → adm p = 1 → col p = Int64.ofInt (G p)) :
    ∃ r, F_X0_advance (m : Int) (k : Int) col adm ((sq d 8 : Nat) : Int) (Int64.ofInt (si k (fun i => (d i : Int) * G i))) = some r ∧ ((r.1 = 0 ∧ ∀ p, p < k → adm p = 1 → d p = m) ∨ (r.1 = 1 ∧ ∃ i, i < k ∧ adm i = 1 ∧ d i < m ∧ (∀ p, i < p → p < k → adm p = 1 → d p = m) ∧ r.2.1 = ((sq (nx d i) 8 : Nat) : Int) ∧ r.2.2 = Int64.ofInt (si k (fun p => (nx d i p : Int) * G p)))) := by
  have key : ∀ (fu i : Nat), i ≤ k → i < fu → (∀ p, i ≤ p → p < k → adm p = 1 → d p = m) → ∃ r, F_X0_advance_b7 (m : Int) (k : Int) col adm fu ((i : Int) - 1) ((sq (lo d i) 8 : Nat) : Int) (Int64.ofInt (si k (fun p => (lo d i p : Int) * G p))) = some r ∧ ((r.1 = 0 ∧ ∀ p, p < k → adm p = 1 → d p = m) ∨ (r.1 = 1 ∧ ∃ i, i < k ∧ adm i = 1 ∧ d i < m ∧ (∀ p, i < p → p < k → adm p = 1 → d p = m) ∧ r.2.1 = ((sq (nx d i) 8 : Nat) : Int) ∧ r.2.2 = Int64.ofInt (si k (fun p => (nx d i p : Int) * G p)))) := by
    intro fu
    induction fu with
    | zero => intro i h1 h2; exact absurd h2 (by omega)
    | succ fu ih =>
      intro i h1 h2 h3
      show ∃ r, F_X0_advance_b7_body (m : Int) (k : Int) col adm (F_X0_advance_b7 (m : Int) (k : Int) col adm fu) ((i : Int) - 1) _ _ = some r ∧ _
      unfold F_X0_advance_b7_body
      refine G_e (by omega) ?_
      by_cases c : (i : Int) - 1 < 0
      · exact if_e c (G_e (Or.inl rfl) (so_e (Or.inl ⟨rfl, fun p hp => h3 p (by omega) hp⟩)))
      · obtain ⟨j, rfl⟩ : ∃ j, i = j + 1 := ⟨i - 1, by omega⟩
        have ej : ((j + 1 : Nat) : Int) - 1 = (j : Int) := by omega
        have hlo : ∀ p, p < 8 → lo d (j + 1) p < 8 := fun p _ => by
          unfold lo
          split
          · by_cases q : p < k
            · have := hd p q; omega
            · rw [h0 p (by omega)]; omega
          · omega
        have e1 : lo d (j + 1) j = d j := if_pos (by omega)
        have e2 : lo d j j = 0 := if_neg (by omega)
        have e3 : ∀ p, p ≠ j → lo d j p = lo d (j + 1) p := fun p hp => by
          unfold lo
          by_cases q : p < j
          · rw [if_pos q, if_pos (by omega)]
          · rw [if_neg q, if_neg (by omega)]
        have e4 : nx d j j = d j + 1 := by
          unfold nx
          rw [if_neg (by omega), if_pos rfl]
        have e5 : ∀ p, p ≠ j → nx d j p = lo d (j + 1) p := fun p hp => by
          unfold lo nx
          by_cases q : p < j
          · rw [if_pos q, if_pos (by omega)]
          · rw [if_neg q, if_neg hp, if_neg (by omega)]
        have dj := hd j (by omega)
        have nxt := ih j (by omega) (by omega)
        rw [ej]
        have ad : ∀ x y : Nat → Nat, (∀ p, p ≠ j → y p = x p) → si k (fun p => (y p : Int) * G p) = si k (fun p => (x p : Int) * G p) - (x j : Int) * G j + (y j : Int) * G j := fun x y h => by
          have := si_upd (a := fun p => (x p : Int) * G p) (i := j) (x := (y j : Int) * G j) k (by omega)
          rw [← this]
          refine si_cong k (fun p _ => ?_)
          by_cases q : p = j
          · rw [q, uI_same]
          · rw [uI_ne _ _ q, h p q]
        refine el_e (by omega) (G_e (by omega) (Bd_e ?_))
        rw [Int.toNat_natCast]
        rcases hA j (by omega) with za | za
        · have dz := hz j (by omega) za
          have el : lo d (j + 1) = lo d j := funext fun p => by
            by_cases q : p = j
            · rw [q, e1, e2, dz]
            · exact (e3 p q).symm
          refine G_e (by omega) (if_e za ?_)
          unfold F_X0_advance_b103
          rw [el]
          exact nxt (fun p p1 p2 p3 => by
            by_cases q : p = j
            · rw [q] at p3; omega
            · exact h3 p (by omega) p2 p3)
        · refine G_e (by omega) (el_e (by omega) (Bd_e ?_))
          rw [vdig_ok hlo (by omega), e1]
          refine G_e (by omega) ?_
          have hcj := hc j (by omega) za
          by_cases q : (m : Int) ≤ (d j : Int)
          · refine if_e q (Bd_e (G_e (by omega) (Bd_e (Bd_e ?_))))
            have u1 := sq_upd e3 8 (by omega)
            rw [e1, e2] at u1
            have u2 := ad (lo d (j + 1)) (lo d j) e3
            rw [e1, e2] at u2
            unfold F_X0_advance_b103
            rw [hcj, lI_z (by omega), ← Int64.ofInt_mul, ← Int64.ofInt_sub, vshl_ok (d j) (by omega) j (by omega)]
            rw [show ((sq (lo d (j + 1)) 8 : Nat) : Int) - ((2 ^ (3 * j) * d j : Nat) : Int) = ((sq (lo d j) 8 : Nat) : Int) by omega]
            rw [show si k (fun p => (lo d (j + 1) p : Int) * G p) - (d j : Int) * G j = si k (fun p => (lo d j p : Int) * G p) by rw [u2]; simp]
            exact nxt (fun p p1 p2 p3 => by
              by_cases t : p = j
              · rw [t]; omega
              · exact h3 p (by omega) p2 p3)
          · have u1 := sq_upd e5 8 (by omega)
            rw [e1, e4] at u1
            have u2 := ad (lo d (j + 1)) (nx d j) e5
            rw [e1, e4] at u2
            refine el_e q (Bd_e (G_e (by omega) (Bd_e (Bd_e (G_e (Or.inr rfl) (so_e (Or.inr ⟨rfl, j, by omega, za, by omega, fun p p1 p2 => h3 p (by omega) p2, ?_, ?_⟩)))))))
            · have v1 := vshl_ok 1 (by omega) j (by omega)
              dsimp only
              rw [show (1 : Int) = ((1 : Nat) : Int) from rfl, v1]
              rw [Nat.mul_add, Nat.mul_one] at u1
              omega
            · dsimp only
              rw [hcj, ← Int64.ofInt_add, u2]
              congr 1
              rw [show ((d j + 1 : Nat) : Int) = (d j : Int) + 1 by omega, Int.add_mul, Int.one_mul]
              omega
  have el : lo d k = d := funext fun p => by
    unfold lo
    split
    · rfl
    · rw [h0 p (by omega)]
  unfold F_X0_advance
  refine Bd_e ?_
  have := key NN k (Nat.le_refl _) (by have := NN_gt (z := 100) (by omega); omega) (fun p p1 p2 => absurd p2 (by omega))
  rw [el] at this
  exact this
