/-! the class's net: what it keeps packed of each firing -/
def nzOf (w : Nat → Int) (f : Int) : Int → Int := fun p => if wt w 0 f p < wt w 2 f p then wt w 2 f p else wt w 0 f p
def boOf (w : Nat → Int) (f : Int) : Int → Int := fun p => if 0 < wt w 3 f p then wt w 3 f p - 1 else 99
def emOf (w : Nat → Int) (f : Int) : Int → Int := fun p => if 0 < wt w 4 f p then 255 else 0
def taOf (w : Nat → Int) (f : Int) : Int → Int := fun p => if 0 < wt w 4 f p then 0 else wt w 0 f p
def giOf (w : Nat → Int) (f : Int) : Int → Int := fun p => wt w 1 f p
/-- the packed rows stand for the weights, for the firings that there are -/
def packed (F : Int) (w : Nat → Int) (ne bo em ta gi : Nat → Int64) : Prop := ∀ f : Int, 0 ≤ f → f < F → ne f.toNat = pk (nzOf w f) ∧ bo f.toNat = pk (boOf w f) ∧ em f.toNat = pk (emOf w f) ∧ ta f.toNat = pk (taOf w f) ∧ gi f.toNat = pk (giOf w f)
/-- weights of places that aren't there are 0 -/
def wOut (P : Int) (w : Nat → Int) : Prop := ∀ k f p : Int, 0 ≤ k → k < 5 → 0 ≤ f → f < 8 → P ≤ p → p < 6 → wt w k f p = 0
theorem b_nz {w : Nat → Int} {f : Int} (hw : wOk w) (hf : 0 ≤ f ∧ f < 8) : bOk 128 (nzOf w f) := fun p h1 h2 => by
  have w0 := hw.1 0 f p (by omega) (by omega) hf.1 hf.2 h1 h2
  have w2 := hw.1 2 f p (by omega) (by omega) hf.1 hf.2 h1 h2
  unfold nzOf
  split <;> omega
theorem b_bo {w : Nat → Int} {f : Int} (hw : wOk w) (hf : 0 ≤ f ∧ f < 8) : bOk 128 (boOf w f) := fun p h1 h2 => by
  have w0 := hw.1 3 f p (by omega) (by omega) hf.1 hf.2 h1 h2
  unfold boOf
  split <;> omega
theorem b_em {w : Nat → Int} {f : Int} : bOk 256 (emOf w f) := fun p h1 h2 => by
  unfold emOf
  split <;> omega
theorem b_ta {w : Nat → Int} {f : Int} (hw : wOk w) (hf : 0 ≤ f ∧ f < 8) : bOk 128 (taOf w f) := fun p h1 h2 => by
  have w0 := hw.1 0 f p (by omega) (by omega) hf.1 hf.2 h1 h2
  unfold taOf
  split <;> omega
theorem b_gi {w : Nat → Int} {f : Int} (hw : wOk w) (hf : 0 ≤ f ∧ f < 8) : bOk 128 (giOf w f) := fun p h1 h2 => by
  have w0 := hw.1 1 f p (by omega) (by omega) hf.1 hf.2 h1 h2
  unfold giOf
  omega
theorem bOk_le {a b : Int} {t : Int → Int} (h : bOk a t) (hab : a ≤ b) : bOk b t := fun p h1 h2 => by
  have := h p h1 h2
  omega
theorem dig_clr : ∀ x : Nat, x < 256 → x &&& 0 = 0 ∧ x &&& 255 = x := by decide +kernel
def clr (t e : Int → Int) : Int → Int := fun p => if e p = 255 then 0 else t p
theorem pkd_clr {t e : Int → Int} (i : Nat) : pkd (clr t e) i = if e (i : Int) = 255 then 0 else pkd t i := by
  unfold pkd clr
  split <;> rfl
/-- x with the places of e cleared -/
theorem clr_ok {t e : Int → Int} (ht : bOk 256 t) (he : ∀ p : Int, 0 ≤ p → p < 6 → e p = 0 ∨ e p = 255) : pk t &&& (pk e ^^^ (-1)) = pk (clr t e) := by
  have d1 := pkd_lt ht (by omega)
  have he2 : bOk 256 e := fun p h1 h2 => by have := he p h1 h2; omega
  have d2 := pkd_lt he2 (by omega)
  have d3 : ∀ i, i < 6 → pkd (clr t e) i < 256 := fun i hi => by
    have := d1 i hi
    rw [pkd_clr]
    split <;> omega
  have l1 := sp6_lt d1
  have l2 := sp6_lt d2
  have l3 := sp6_lt d3
  have hor : sp (pkd (clr t e)) 6 ||| (sp (pkd t) 6 &&& sp (pkd e) 6) = sp (pkd t) 6 := by
    rw [sp_and 6 d1 d2, sp_or 6 d3 (fun i hi => Nat.lt_of_le_of_lt Nat.and_le_left (d1 i hi))]
    refine sp_cong 6 (fun j hj => ?_)
    have hlt := d1 j hj
    rw [pkd_clr]
    rcases he j (by omega) (by omega) with h | h
    · rw [if_neg (by omega), show pkd e j = 0 by unfold pkd; rw [h]; rfl, (dig_clr _ hlt).1, Nat.or_zero]
    · rw [if_pos h, show pkd e j = 255 by unfold pkd; rw [h]; rfl, (dig_clr _ hlt).2, Nat.zero_or]
  have hand : sp (pkd (clr t e)) 6 &&& sp (pkd e) 6 = 0 := by
    rw [sp_and 6 d3 d2]
    rw [sp_cong (b := fun _ => 0) 6 (fun j hj => ?_)]
    · rfl
    · have hlt := d1 j hj
      rw [pkd_clr]
      rcases he j (by omega) (by omega) with h | h
      · rw [if_neg (by omega), show pkd e j = 0 by unfold pkd; rw [h]; rfl, Nat.and_zero]
      · rw [if_pos h, Nat.zero_and]
  unfold pk
  refine Int64.toBitVec_inj.mp (BitVec.eq_of_getLsbD_eq fun i hi => ?_)
  have hb : ∀ x : Nat, x < 281474976710656 → (lN x).toBitVec.getLsbD i = x.testBit i := fun x hx => by
    rw [lN_bv, BitVec.getLsbD_ofNat]
    simp [hi]
  rw [Int64.toBitVec_and, Int64.toBitVec_xor, BitVec.getLsbD_and, BitVec.getLsbD_xor, hb _ l1, hb _ l2, hb _ l3]
  have hm : (-1 : Int64).toBitVec.getLsbD i = true := by
    have : ∀ j < 64, (-1 : Int64).toBitVec.getLsbD j = true := by decide
    exact this i hi
  rw [hm]
  generalize sp (pkd (clr t e)) 6 = A at hor hand ⊢
  generalize sp (pkd t) 6 = B at hor ⊢
  generalize sp (pkd e) 6 = E at hor hand ⊢
  have h1 := congrArg (fun z => Nat.testBit z i) hor
  have h2 := congrArg (fun z => Nat.testBit z i) hand
  simp only [Nat.testBit_or, Nat.testBit_and, Nat.zero_testBit] at h1 h2
  revert h1 h2
  cases A.testBit i <;> cases B.testBit i <;> cases E.testBit i <;> simp
/-- what the marking is behind a firing, all six places -/
def aftM (w : Nat → Int) (t : Int → Int) (f : Int) : Int → Int := fun p => aft w t f p
