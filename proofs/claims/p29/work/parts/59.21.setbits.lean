/-! sets of places as numbers: bit by bit -/
theorem nx_or (a b : Nat) : nI a ||| nI b = nI (a ||| b) := by
  apply Int32.toBitVec_inj.1
  show BitVec.ofNat 32 a ||| BitVec.ofNat 32 b = BitVec.ofNat 32 (a ||| b)
  apply BitVec.eq_of_getLsbD_eq
  intro i hi
  simp [hi]
theorem vI_n (n : Nat) : vI (n : Int) = nI n := by rw [vI_nat (by omega), Int.toNat_natCast]
theorem iAnd_n {a b : Nat} (ha : a < 2147483648) : iAnd (a : Int) (b : Int) = ((a &&& b : Nat) : Int) := by
  unfold iAnd
  rw [vI_n, vI_n, nx_and]
  have h : a &&& b ≤ a := Nat.and_le_left
  exact nI_toInt (by omega)
theorem or_lt {a b n : Nat} (ha : a < 2 ^ n) (hb : b < 2 ^ n) : a ||| b < 2 ^ n := Nat.or_lt_two_pow ha hb
theorem iOr_n {a b : Nat} (ha : a < 2147483648) (hb : b < 2147483648) : iOr (a : Int) (b : Int) = ((a ||| b : Nat) : Int) := by
  unfold iOr
  rw [vI_n, vI_n, nx_or]
  exact nI_toInt (or_lt (n := 31) (by omega) (by omega))
/-- what is in the one and not in the other -/
def dif (a b : Nat) : Nat := a &&& (b ^^^ 4294967295)
theorem iNot_n {a b : Nat} (ha : a < 2147483648) : iAnd (a : Int) (iXor (b : Int) (-1)) = ((dif a b : Nat) : Int) := by
  have e : vI (iXor (b : Int) (-1)) = nI (b ^^^ 4294967295) := by
    unfold iXor
    rw [vI_of, vI_n, show vI (-1) = nI 4294967295 by decide, nx_xor]
  unfold iAnd
  rw [e, vI_n, nx_and]
  have h : a &&& (b ^^^ 4294967295) ≤ a := Nat.and_le_left
  exact nI_toInt (by omega)
theorem iAnd_m1 {a : Nat} (ha : a < 2147483648) : iAnd (a : Int) (-1) = (a : Int) := by
  unfold iAnd
  have e : nI a &&& vI (-1) = nI a := b_ext fun i hi => by
    rw [b_and, show vI (-1) = (-1 : Int32) by decide, b_m1 i hi, Bool.and_true]
  rw [vI_n, e]
  exact nI_toInt (by omega)
theorem dif_bit {a b : Nat} (ha : a < 2147483648) (i : Nat) : (dif a b).testBit i = (a.testBit i && !b.testBit i) := by
  unfold dif
  rw [Nat.testBit_and, Nat.testBit_xor]
  by_cases h : i < 32
  · rw [show (4294967295 : Nat) = 2 ^ 32 - 1 from rfl, Nat.testBit_two_pow_sub_one, decide_eq_true h, Bool.xor_true]
  · have : a.testBit i = false := Nat.testBit_lt_two_pow (Nat.lt_of_lt_of_le (show a < 2 ^ 31 by omega) (Nat.pow_le_pow_right (by decide) (by omega)))
    rw [this, Bool.false_and, Bool.false_and]
theorem dif_le {a b : Nat} : dif a b ≤ a := Nat.and_le_left
theorem iShl1 : ∀ k : Nat, k < 7 → iShl 1 (k : Int) = ((2 ^ k : Nat) : Int) := by decide +kernel
theorem iShl1_i {k : Int} (h : 0 ≤ k ∧ k ≤ 6) : iShl 1 k = ((2 ^ k.toNat : Nat) : Int) := by
  have := iShl1 k.toNat (by omega)
  rw [show ((k.toNat : Nat) : Int) = k by omega] at this
  exact this
theorem bt_n {n j : Nat} (hj : j < 32) : bt (nI n) j = n.testBit j := by
  show (BitVec.ofNat 32 n).getLsbD j = _
  rw [BitVec.getLsbD_ofNat]
  simp [hj]
theorem iShr_n {s p : Nat} (hs : s < 2147483648) (hp : p < 32) : iShr (s : Int) (p : Int) = ((s / 2 ^ p : Nat) : Int) := by
  have hle : s / 2 ^ p ≤ s := Nat.div_le_self _ _
  have e : nI s >>> (nI p &&& 31) = nI (s / 2 ^ p) := b_ext fun i hi => by
    rw [b_sshr p hp (nI s) hi, bt_n hi, Nat.testBit_div_two_pow]
    split
    · rw [bt_n (by assumption), Nat.add_comm]
    · rw [bt_n (by omega), Nat.testBit_lt_two_pow (show s < 2 ^ 31 by omega)]
      exact (Nat.testBit_lt_two_pow (Nat.lt_of_lt_of_le (show s < 2 ^ 31 by omega) (Nat.pow_le_pow_right (by decide) (by omega)))).symm
  unfold iShr
  rw [vI_n, vI_n, e]
  exact nI_toInt (by omega)
theorem bit_n {s : Nat} {p : Int} (hs : s < 2147483648) (hp : 0 ≤ p ∧ p < 32) : iAnd (iShr (s : Int) p) 1 = if s.testBit p.toNat = true then 1 else 0 := by
  have h1 := iShr_n (p := p.toNat) hs (by omega)
  rw [show ((p.toNat : Nat) : Int) = p by omega] at h1
  have h2 : iAnd ((s / 2 ^ p.toNat : Nat) : Int) ((1 : Nat) : Int) = _ := iAnd_n (by have := Nat.div_le_self s (2 ^ p.toNat); omega)
  rw [h1, show (1 : Int) = ((1 : Nat) : Int) from rfl, h2, Nat.and_one_is_mod, Nat.testBit_eq_decide_div_mod_eq]
  rcases Nat.mod_two_eq_zero_or_one (s / 2 ^ p.toNat) with q | q
  · rw [q]; rfl
  · rw [q]; rfl
def sub (a b : Nat) : Prop := a &&& b = a
theorem sub_iff {a b : Nat} : sub a b ↔ ∀ i, a.testBit i = true → b.testBit i = true := by
  constructor
  · intro h i hi
    have := congrArg (fun z => Nat.testBit z i) h
    simp only [Nat.testBit_and, hi] at this
    exact this
  · intro h
    refine Nat.eq_of_testBit_eq fun i => ?_
    rw [Nat.testBit_and]
    cases hc : a.testBit i
    · rfl
    · rw [h i hc]; rfl
theorem sub_tr {a b c : Nat} (h : sub a b) (h2 : sub b c) : sub a c := sub_iff.mpr fun i hi => sub_iff.mp h2 i (sub_iff.mp h i hi)
theorem sub_le {a b : Nat} (h : sub a b) : a ≤ b := by
  have := Nat.and_le_right (n := a) (m := b)
  unfold sub at h
  omega
theorem and_ne {a b : Nat} : a &&& b ≠ 0 ↔ ∃ i, a.testBit i = true ∧ b.testBit i = true := by
  constructor
  · intro h
    obtain ⟨i, hi⟩ := Nat.exists_testBit_of_ne_zero h
    rw [Nat.testBit_and, Bool.and_eq_true] at hi
    exact ⟨i, hi⟩
  · intro ⟨i, h1, h2⟩ z
    have := congrArg (fun z => Nat.testBit z i) z
    simp only [Nat.testBit_and, h1, h2, Nat.zero_testBit] at this
    exact absurd this (by decide)
theorem dif_ne {a b : Nat} (ha : a < 2147483648) : dif a b ≠ 0 ↔ ¬ sub a b := by
  constructor
  · intro h z
    obtain ⟨i, hi⟩ := Nat.exists_testBit_of_ne_zero h
    rw [dif_bit ha, Bool.and_eq_true] at hi
    rw [sub_iff.mp z i hi.1] at hi
    exact absurd hi.2 (by decide)
  · intro h z
    refine h (sub_iff.mpr fun i hi => ?_)
    have := congrArg (fun z => Nat.testBit z i) z
    simp only [dif_bit ha, hi, Nat.zero_testBit] at this
    cases hc : b.testBit i
    · rw [hc] at this; exact absurd this (by decide)
    · rfl
theorem dif_sub {a b : Nat} (ha : a < 2147483648) : sub (dif a b) a := sub_iff.mpr fun i hi => by
  rw [dif_bit ha, Bool.and_eq_true] at hi
  exact hi.1
/-- the set of places with a weight of a kind -/
def so (w : Nat → Int) (k f : Int) : Nat → Nat
  | 0 => 0
  | p + 1 => so w k f p ||| (if 0 < wt w k f (p : Int) then 2 ^ p else 0)
theorem so_bit {w : Nat → Int} {k f : Int} : ∀ (P i : Nat), (so w k f P).testBit i = (decide (i < P) && decide (0 < wt w k f (i : Int)))
  | 0, i => by
    rw [so, Nat.zero_testBit, decide_eq_false (Nat.not_lt_zero i), Bool.false_and]
  | P + 1, i => by
    rw [so, Nat.testBit_or, so_bit P i]
    by_cases e : i = P
    · subst e
      rw [decide_eq_false (Nat.lt_irrefl i), Bool.false_and, Bool.false_or, decide_eq_true (Nat.lt_succ_self i), Bool.true_and]
      by_cases h : 0 < wt w k f (i : Int)
      · rw [if_pos h, Nat.testBit_two_pow, decide_eq_true h, decide_eq_true rfl]
      · rw [if_neg h, Nat.zero_testBit, decide_eq_false h]
    · have h2 : (if 0 < wt w k f (P : Int) then 2 ^ P else 0 : Nat).testBit i = false := by
        split
        · rw [Nat.testBit_two_pow]; exact decide_eq_false (fun z => e z.symm)
        · exact Nat.zero_testBit i
      rw [h2, Bool.or_false]
      congr 1
      exact decide_eq_decide.mpr (by omega)
theorem so_lt {w : Nat → Int} {k f : Int} (P : Nat) : so w k f P < 2 ^ P := Nat.lt_pow_two_of_testBit _ fun i hi => by
  rw [so_bit, decide_eq_false (by omega), Bool.false_and]
theorem so_64 {w : Nat → Int} {k f P : Int} (hP : 0 ≤ P ∧ P ≤ 6) : so w k f P.toNat < 64 := by
  have h1 := so_lt (w := w) (k := k) (f := f) P.toNat
  have h2 : 2 ^ P.toNat ≤ 2 ^ 6 := Nat.pow_le_pow_right (by decide) (by omega)
  omega
theorem p2_64 {P : Int} (hP : 0 ≤ P ∧ P ≤ 6) : 1 ≤ 2 ^ P.toNat ∧ 2 ^ P.toNat ≤ 64 := by
  have h2 : 2 ^ P.toNat ≤ 2 ^ 6 := Nat.pow_le_pow_right (by decide) (by omega)
  have h3 := Nat.two_pow_pos P.toNat
  omega
theorem placesWith_ok {w : Nat → Int} {k f P : Int} (hP : 0 ≤ P ∧ P ≤ 6) (hk : 0 ≤ k ∧ k < 5) (hf : 0 ≤ f ∧ f < 8) (hw : wOk w) : F_X3_placesWith k f P w = some ((so w k f P.toNat : Nat) : Int) := by
  have key : ∀ (fu : Nat) (p : Int), 0 ≤ p → p ≤ P → P - p < fu → F_X3_placesWith_b5 P w fu k f ((so w k f p.toNat : Nat) : Int) p = some ((so w k f P.toNat : Nat) : Int) := by
    intro fu
    induction fu with
    | zero => intro p h1 h2 h3; exact absurd h3 (by omega)
    | succ fu ih =>
      intro p h1 h2 h3
      show F_X3_placesWith_b5_body P w (F_X3_placesWith_b5 P w fu) k f _ p = _
      unfold F_X3_placesWith_b5_body
      refine G_i (by omega) ?_
      by_cases c : P ≤ p
      · refine if_i c ?_
        rw [show p = P by omega]
      · refine el_i c (Ob_i (wt3_ok hk hf (by omega)) ?_)
        have hb := hw.1 k f p hk.1 hk.2 hf.1 hf.2 h1 (by omega)
        refine G_i (by omega) ?_
        obtain ⟨n, rfl⟩ : ∃ n : Nat, p = n := ⟨p.toNat, by omega⟩
        have h64 := so_64 (w := w) (k := k) (f := f) (P := (n : Int)) (by omega)
        rw [Int.toNat_natCast] at h64 ⊢
        have nx := ih (n + 1) (by omega) (by omega) (by omega)
        rw [show ((n : Int) + 1).toNat = n + 1 by omega, so] at nx
        by_cases z : wt w k f n ≤ 0
        · refine if_i z ?_
          rw [if_neg (by omega), Nat.or_zero] at nx
          exact nx
        · refine el_i z (Bd_i ?_)
          rw [if_pos (by omega)] at nx
          have hq : 2 ^ n ≤ 2 ^ 6 := Nat.pow_le_pow_right (by decide) (by omega)
          rw [iShl1 n (by omega), iOr_n (by omega) (by omega)]
          exact nx
  unfold F_X3_placesWith
  exact key NN 0 (by omega) hP.1 (NN_gt (by omega))
/-- the reference: does a firing touch a set -/
theorem touches_ok {w : Nat → Int} {k f P : Int} {s : Nat} (hP : 0 ≤ P ∧ P ≤ 6) (hk : 0 ≤ k ∧ k < 5) (hf : 0 ≤ f ∧ f < 8) (hw : wOk w) (hs : s < 2147483648) : ∃ r, F_X6_touches k f (s : Int) P w = some r ∧ isB r (so w k f P.toNat &&& s ≠ 0) := by
  have key : ∀ (fu : Nat) (d p : Int), 0 ≤ p → p ≤ P → P - p < fu → isB d (so w k f p.toNat &&& s ≠ 0) → ∃ r, F_X6_touches_b6 P w fu k f (s : Int) d p = some r ∧ isB r (so w k f P.toNat &&& s ≠ 0) := by
    intro fu
    induction fu with
    | zero => intro d p h1 h2 h3; exact absurd h3 (by omega)
    | succ fu ih =>
      intro d p h1 h2 h3 hd
      show ∃ r, F_X6_touches_b6_body P w (F_X6_touches_b6 P w fu) k f (s : Int) d p = some r ∧ _
      unfold F_X6_touches_b6_body
      refine G_e (by omega) ?_
      by_cases c : P ≤ p
      · refine if_e c (G_e (isB_01 hd) (so_e ?_))
        rw [show P = p by omega]
        exact hd
      · refine el_e c ?_
        have st : (so w k f (p + 1).toNat &&& s ≠ 0) ↔ (so w k f p.toNat &&& s ≠ 0) ∨ (0 < wt w k f p ∧ s.testBit p.toNat = true) := by
          rw [and_ne, and_ne]
          constructor
          · intro ⟨i, i1, i2⟩
            rw [so_bit, Bool.and_eq_true] at i1
            have i3 := of_decide_eq_true i1.1
            have i4 := of_decide_eq_true i1.2
            by_cases e : i = p.toNat
            · refine Or.inr ⟨?_, e ▸ i2⟩
              rw [show p = (i : Int) by omega]; exact i4
            · refine Or.inl ⟨i, ?_, i2⟩
              rw [so_bit, decide_eq_true (by omega : i < p.toNat), decide_eq_true i4]; rfl
          · rintro (⟨i, i1, i2⟩ | ⟨i1, i2⟩)
            · rw [so_bit, Bool.and_eq_true] at i1
              have i3 := of_decide_eq_true i1.1
              exact ⟨i, by rw [so_bit, decide_eq_true (by omega : i < (p + 1).toNat), i1.2]; rfl, i2⟩
            · refine ⟨p.toNat, ?_, i2⟩
              rw [so_bit, decide_eq_true (by omega : p.toNat < (p + 1).toNat), show ((p.toNat : Nat) : Int) = p by omega, decide_eq_true i1]; rfl
        have yes : (so w k f (p + 1).toNat &&& s ≠ 0) → ∃ r, F_X6_touches_b41 P w (F_X6_touches_b6 P w fu) k f (s : Int) p = some r ∧ isB r (so w k f P.toNat &&& s ≠ 0) := fun h => ih 1 (p + 1) (by omega) (by omega) (by omega) (Or.inl ⟨rfl, h⟩)
        have no : ¬ (so w k f (p + 1).toNat &&& s ≠ 0) → ∃ r, F_X6_touches_b45 P w (F_X6_touches_b6 P w fu) k f (s : Int) p = some r ∧ isB r (so w k f P.toNat &&& s ≠ 0) := fun h => ih 0 (p + 1) (by omega) (by omega) (by omega) (Or.inr ⟨rfl, h⟩)
        rcases hd with ⟨rfl, hd⟩ | ⟨rfl, hd⟩
        · exact G_e (by omega) (el_e (by omega) (yes (st.mpr (Or.inl hd))))
        · refine G_e (by omega) (if_e rfl (Bd_e ?_))
          rw [bit_n hs (by omega)]
          by_cases b : s.testBit p.toNat = true
          · rw [if_pos b]
            refine G_e (by omega) (if_e rfl (Ob_e (wt6_ok hk hf (by omega)) ?_))
            have hb := hw.1 k f p hk.1 hk.2 hf.1 hf.2 h1 (by omega)
            refine G_e (by omega) ?_
            by_cases z : wt w k f p ≤ 0
            · exact if_e z (no (fun q => (st.mp q).elim hd (fun q => by omega)))
            · exact el_e z (yes (st.mpr (Or.inr ⟨by omega, b⟩)))
          · rw [if_neg b]
            exact G_e (by omega) (el_e (by omega) (no (fun q => (st.mp q).elim hd (fun q => b q.2))))
  unfold F_X6_touches
  exact key NN 0 0 (by omega) hP.1 (NN_gt (by omega)) (Or.inr ⟨rfl, fun h => h (by show 0 &&& s = 0; exact Nat.zero_and s)⟩)
