/-! how many rows of numbers can stand beside each other, none under another: the bottoms of symmetric chains -/
def su : Nat → (Nat → Nat) → Nat
  | 0, _ => 0
  | n + 1, f => su n f + f n
theorem su_zero : ∀ (n : Nat), su n (fun _ => 0) = 0
  | 0 => rfl
  | n + 1 => by rw [su, su_zero n]
theorem su_add (a c : Nat → Nat) : ∀ (n : Nat), su n (fun b => a b + c b) = su n a + su n c
  | 0 => rfl
  | n + 1 => by rw [su, su, su, su_add a c n]; omega
theorem su_one (y : Nat) : ∀ (n : Nat), su n (fun b => if y = b then 1 else 0) = if y < n then 1 else 0
  | 0 => by rw [su, if_neg (Nat.not_lt_zero y)]
  | n + 1 => by
    rw [su, su_one y n]
    by_cases h : y < n
    · rw [if_pos h, if_neg (by omega), if_pos (by omega)]
    · rw [if_neg h]
      by_cases e : y = n
      · rw [if_pos e, if_pos (by omega)]
      · rw [if_neg e, if_neg (by omega)]
theorem su_le {a c : Nat → Nat} : ∀ (n : Nat), (∀ i, i < n → a i ≤ c i) → su n a ≤ su n c
  | 0, _ => Nat.le_refl _
  | n + 1, h => Nat.add_le_add (su_le n (fun i hi => h i (by omega))) (h n (by omega))
theorem su_cong {a c : Nat → Nat} : ∀ (n : Nat), (∀ i, i < n → a i = c i) → su n a = su n c
  | 0, _ => rfl
  | n + 1, h => by rw [su, su, su_cong n (fun i hi => h i (by omega)), h n (by omega)]
theorem len_su {α : Type} (f : α → Nat) (M : Nat) : ∀ (l : List α), (∀ x, x ∈ l → f x < M) → l.length = su M (fun b => (l.filter (fun x => decide (f x = b))).length)
  | [], _ => by
    show 0 = su M (fun _ => 0)
    rw [su_zero]
  | x :: t, h => by
    have ih := len_su f M t (fun y hy => h y (List.mem_cons_of_mem _ hy))
    have hx := h x List.mem_cons_self
    have e : su M (fun b => ((x :: t).filter (fun x => decide (f x = b))).length) = su M (fun b => (if f x = b then 1 else 0) + (t.filter (fun x => decide (f x = b))).length) := su_cong M (fun b _ => by
      rw [List.filter_cons]
      by_cases q : f x = b
      · rw [if_pos (decide_eq_true q), if_pos q, List.length_cons]; omega
      · rw [if_neg (by rw [decide_eq_true_iff]; exact q), if_neg q]; omega)
    rw [e, su_add, su_one, if_pos hx, List.length_cons, ← ih]
    omega
/-- how many bottoms of width k there are behind so many open ones -/
def nb (m : Nat) : Nat → Nat → Nat
  | 0, _ => 1
  | k + 1, o => su ((if m ≤ o then m else o) + 1) (fun b => nb m k (o + m - 2 * b))
def bc (m : Nat) : Nat → Nat → (Nat → Nat) → Prop
  | 0, _, _ => True
  | k + 1, o, b => b 0 ≤ m ∧ b 0 ≤ o ∧ bc m k (o + m - 2 * b 0) (fun p => b (p + 1))
theorem bot_len (m : Nat) : ∀ (k o : Nat) (L : List (Nat → Nat)), (∀ b, b ∈ L → bc m k o b) → L.Pairwise (fun a b => ∃ p, p < k ∧ a p ≠ b p) → L.length ≤ nb m k o
  | 0, o, L, _, hp => by
    show L.length ≤ 1
    match L, hp with
    | [], _ => exact Nat.zero_le _
    | [_], _ => exact Nat.le_refl _
    | a :: b :: t, hp =>
      obtain ⟨p, h, -⟩ := (List.pairwise_cons.mp hp).1 b List.mem_cons_self
      exact absurd h (Nat.not_lt_zero p)
  | k + 1, o, L, hb, hp => by
    rw [len_su (fun b : Nat → Nat => b 0) ((if m ≤ o then m else o) + 1) L (fun b h => by have := hb b h; have h1 := this.1; have h2 := this.2.1; split <;> omega)]
    refine su_le _ (fun c _ => ?_)
    have e : (L.filter (fun b => decide (b 0 = c))).length = ((L.filter (fun b => decide (b 0 = c))).map (fun b p => b (p + 1))).length := (List.length_map _).symm
    rw [e]
    refine bot_len m k _ _ (fun b h => ?_) ?_
    · obtain ⟨a, h1, rfl⟩ := List.mem_map.mp h
      obtain ⟨h2, h3⟩ := List.mem_filter.mp h1
      have h4 := of_decide_eq_true h3
      have := (hb a h2).2.2
      rw [h4] at this
      exact this
    · refine List.pairwise_map.mpr ?_
      refine List.Pairwise.imp_of_mem ?_ (List.Pairwise.filter _ hp)
      intro a b ha hb2 h
      have h1 := of_decide_eq_true (List.mem_filter.mp ha).2
      have h2 := of_decide_eq_true (List.mem_filter.mp hb2).2
      obtain ⟨p, p1, p2⟩ := h
      obtain ⟨q, rfl⟩ : ∃ q, p = q + 1 := by
        cases p with
        | zero => exact absurd (h1.trans h2.symm) p2
        | succ q => exact ⟨q, rfl⟩
      exact ⟨q, by omega, p2⟩
/-- so many are open ahead of a place -/
def opn (m : Nat) (v : Nat → Nat) : Nat → Nat
  | 0 => 0
  | p + 1 => opn m v p - (if v p ≤ opn m v p then v p else opn m v p) + (m - v p)
def bo (m : Nat) (v : Nat → Nat) (p : Nat) : Nat := if v p ≤ opn m v p then v p else opn m v p
theorem opn_s (m : Nat) (v : Nat → Nat) (p : Nat) : opn m v (p + 1) = opn m v p - bo m v p + (m - v p) := rfl
theorem bo_bc (m : Nat) (v : Nat → Nat) : ∀ (k s o : Nat), opn m v s ≤ o → (∀ p, p < s + k → v p ≤ m) → bc m k o (fun p => bo m v (s + p))
  | 0, _, _, _, _ => True.intro
  | k + 1, s, o, h, hm => by
    have h1 := hm s (by omega)
    have h2 := opn_s m v s
    have h3 : bo m v s ≤ v s ∧ bo m v s ≤ opn m v s := by unfold bo; split <;> omega
    refine ⟨?_, ?_, ?_⟩
    · show bo m v (s + 0) ≤ m
      rw [Nat.add_zero]; omega
    · show bo m v (s + 0) ≤ o
      rw [Nat.add_zero]; omega
    · have := bo_bc m v k (s + 1) (o + m - 2 * bo m v s) (by omega) (fun p hp => hm p (by omega))
      have e : (fun p => bo m v (s + 1 + p)) = fun p => bo m v (s + (p + 1)) := funext fun p => by rw [Nat.add_assoc, Nat.add_comm 1 p]
      rw [e] at this
      exact this
def ord (m k : Nat) (v w : Nat → Nat) : Prop := (∀ p, p < k → v p ≤ w p) ∧ opn m w k ≤ opn m v k ∧ (opn m v k = opn m w k → ∀ p, p < k → v p = w p)
theorem ord_s {m k : Nat} {v w : Nat → Nat} (h : ord m k v w) (hv : v k ≤ m) (hw : w k ≤ m) (e : bo m v k = bo m w k) : ord m (k + 1) v w ∨ ord m (k + 1) w v := by
  obtain ⟨h1, h2, h3⟩ := h
  have s1 := opn_s m v k
  have s2 := opn_s m w k
  have A : (v k ≤ opn m v k ∧ bo m v k = v k) ∨ (opn m v k < v k ∧ bo m v k = opn m v k) := by unfold bo; split <;> omega
  have B : (w k ≤ opn m w k ∧ bo m w k = w k) ∨ (opn m w k < w k ∧ bo m w k = opn m w k) := by unfold bo; split <;> omega
  by_cases c : v k ≤ w k
  · refine Or.inl ⟨fun p hp => ?_, ?_, fun q p hp => ?_⟩
    · by_cases z : p = k
      · rw [z]; exact c
      · exact h1 p (by omega)
    · omega
    · have hq : opn m v k = opn m w k ∧ v k = w k := by
        omega
      by_cases z : p = k
      · rw [z]; exact hq.2
      · exact h3 hq.1 p (by omega)
  · have hq : opn m v k = opn m w k := by
      omega
    have h4 := h3 hq
    refine Or.inr ⟨fun p hp => ?_, ?_, fun q p hp => ?_⟩
    · by_cases z : p = k
      · rw [z]; omega
      · rw [h4 p (by omega)]; exact Nat.le_refl _
    · omega
    · exfalso
      omega
theorem ord_all {m : Nat} {v w : Nat → Nat} : ∀ (k : Nat), (∀ p, p < k → v p ≤ m) → (∀ p, p < k → w p ≤ m) → (∀ p, p < k → bo m v p = bo m w p) → ord m k v w ∨ ord m k w v
  | 0, _, _, _ => Or.inl ⟨fun p h => absurd h (Nat.not_lt_zero p), Nat.le_refl _, fun _ p h => absurd h (Nat.not_lt_zero p)⟩
  | k + 1, hv, hw, e => by
    rcases ord_all k (fun p h => hv p (by omega)) (fun p h => hw p (by omega)) (fun p h => e p (by omega)) with h | h
    · exact ord_s h (hv k (by omega)) (hw k (by omega)) (e k (by omega))
    · exact (ord_s h (hw k (by omega)) (hv k (by omega)) (e k (by omega)).symm).symm
theorem anti_len {m k : Nat} (L : List (Nat → Nat)) (hm : ∀ v, v ∈ L → ∀ p, p < k → v p ≤ m) (hp : L.Pairwise (fun a b => (∃ p, p < k ∧ b p < a p) ∧ ∃ p, p < k ∧ a p < b p)) : L.length ≤ nb m k 0 := by
  rw [← List.length_map (f := bo m)]
  refine bot_len m k 0 _ (fun b h => ?_) ?_
  · obtain ⟨a, h1, rfl⟩ := List.mem_map.mp h
    have := bo_bc m a k 0 0 (Nat.le_refl _) (fun p hp => hm a h1 p (by omega))
    have e : (fun p => bo m a (0 + p)) = bo m a := funext fun p => by rw [Nat.zero_add]
    rw [e] at this
    exact this
  · refine List.pairwise_map.mpr (List.Pairwise.imp_of_mem ?_ hp)
    intro a b ha hb h
    by_cases c : ∃ p, p < k ∧ bo m a p ≠ bo m b p
    · exact c
    · exfalso
      have e : ∀ p, p < k → bo m a p = bo m b p := fun p hp => Decidable.byContradiction fun z => c ⟨p, hp, z⟩
      obtain ⟨⟨p, p1, p2⟩, q, q1, q2⟩ := h
      rcases ord_all k (hm a ha) (hm b hb) e with z | z
      · have := z.1 p p1; omega
      · have := z.1 q q1; omega
theorem nb_rows : nb 3 6 0 = 580 := by decide +kernel
theorem nb_rounds : nb 2 8 0 = 1107 := by decide +kernel
theorem nb_sets : nb 1 6 0 = 20 := by decide +kernel
/-! what is kept: codes upwards, each that is wanted and lies over none kept before -/
noncomputable def kp (S : Nat → Prop) (bel : Nat → Nat → Prop) : Nat → List Nat
  | 0 => []
  | c + 1 => @ite _ (S c ∧ ∀ k, k ∈ kp S bel c → ¬ bel k c) (Classical.propDecidable _) (kp S bel c ++ [c]) (kp S bel c)
theorem kp_add {S : Nat → Prop} {bel : Nat → Nat → Prop} {c : Nat} (h : S c) (h2 : ∀ k, k ∈ kp S bel c → ¬ bel k c) : kp S bel (c + 1) = kp S bel c ++ [c] := @if_pos _ (Classical.propDecidable _) ⟨h, h2⟩ _ _ _
theorem kp_skip {S : Nat → Prop} {bel : Nat → Nat → Prop} {c : Nat} (h : ¬ (S c ∧ ∀ k, k ∈ kp S bel c → ¬ bel k c)) : kp S bel (c + 1) = kp S bel c := @if_neg _ (Classical.propDecidable _) h _ _ _
theorem kp_mem {S : Nat → Prop} {bel : Nat → Nat → Prop} : ∀ (c k : Nat), k ∈ kp S bel c → k < c ∧ S k
  | 0, k, h => absurd h List.not_mem_nil
  | c + 1, k, h => by
    by_cases q : S c ∧ ∀ k, k ∈ kp S bel c → ¬ bel k c
    · rw [kp_add q.1 q.2] at h
      rcases List.mem_append.mp h with z | z
      · have := kp_mem c k z; exact ⟨by omega, this.2⟩
      · have := List.mem_singleton.mp z
        subst this
        exact ⟨by omega, q.1⟩
    · rw [kp_skip q] at h
      have := kp_mem c k h; exact ⟨by omega, this.2⟩
theorem kp_pw {S : Nat → Prop} {bel : Nat → Nat → Prop} : ∀ (c : Nat), (kp S bel c).Pairwise (fun a b => a < b ∧ ¬ bel a b)
  | 0 => List.Pairwise.nil
  | c + 1 => by
    by_cases q : S c ∧ ∀ k, k ∈ kp S bel c → ¬ bel k c
    · rw [kp_add q.1 q.2]
      refine List.pairwise_append.mpr ⟨kp_pw c, List.pairwise_singleton _ _, fun a ha b hb => ?_⟩
      have := List.mem_singleton.mp hb
      subst this
      exact ⟨(kp_mem _ a ha).1, q.2 a ha⟩
    · rw [kp_skip q]
      exact kp_pw c
theorem kp_far {S : Nat → Prop} {bel : Nat → Nat → Prop} {a : Nat} : ∀ (b : Nat), (∀ c, a ≤ c → c < a + b → ¬ S c) → kp S bel (a + b) = kp S bel a
  | 0, _ => rfl
  | b + 1, h => by
    have := kp_far (S := S) (bel := bel) (a := a) b (fun c h1 h2 => h c h1 (by omega))
    rw [← this]
    exact kp_skip (fun z => h (a + b) (by omega) (by omega) z.1)
/-- a table holds a list, by a way of writing it -/
def Arr (e : Nat → Int) (a : Nat → Int) (l : List Nat) : Prop := ∀ (i : Nat) (h : i < l.length), a i = e l[i]
theorem Arr_nil {e a : Nat → Int} : Arr e a [] := fun i h => absurd h (Nat.not_lt_zero i)
theorem Arr_add {e a : Nat → Int} {l : List Nat} {c n : Nat} {x : Int} (h : Arr e a l) (hn : n = l.length) (hx : x = e c) : Arr e (uI a n x) (l ++ [c]) := fun i hi => by
  subst hn
  rw [List.length_append, List.length_singleton] at hi
  by_cases q : i < l.length
  · rw [uI_ne _ _ (by omega), List.getElem_append_left q]
    exact h i q
  · obtain rfl : i = l.length := by omega
    rw [uI_same, List.getElem_concat_length rfl, hx]
