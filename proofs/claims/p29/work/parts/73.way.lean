/-! the ways: lengths, first firings -/
/-- how deep a marking lies, by whence it was come to -/
def dpt (wh : Nat → Int) : Nat → Int → Int
  | 0, _ => 0
  | b + 1, k => if k ≤ 0 then 0 else dpt wh b (wh k.toNat) + 1
theorem dpt_nn {wh : Nat → Int} : ∀ (b : Nat) (k : Int), 0 ≤ dpt wh b k
  | 0, _ => Int.le_refl _
  | b + 1, k => by
    rw [dpt]
    split
    · omega
    · have := dpt_nn (wh := wh) b (wh k.toNat)
      omega
theorem dpt_more {wh : Nat → Int} {n : Int} (hw : ∀ k : Int, 1 ≤ k → k < n → 0 ≤ wh k.toNat ∧ wh k.toNat < k) : ∀ (b : Nat) (k : Int), k < n → k ≤ b → dpt wh (b + 1) k = dpt wh b k
  | 0, k, h1, h2 => by
    show (if k ≤ 0 then 0 else dpt wh 0 (wh k.toNat) + 1) = 0
    rw [if_pos (by omega)]
  | b + 1, k, h1, h2 => by
    rw [dpt]
    by_cases q : k ≤ 0
    · rw [if_pos q, dpt, if_pos q]
    · have := hw k (by omega) h1
      rw [if_neg q, dpt_more hw b _ (by omega) (by omega)]
      conv => rhs; rw [dpt, if_neg q]
def dep (wh : Nat → Int) (k : Nat) : Int := dpt wh 300 (k : Int)
theorem dep_DE {P F n E : Int} {w tok mk wh by_ ld : Nat → Int} (h : BF P F w tok n E mk wh by_ ld) : DE n wh (dep wh) := by
  have hw : ∀ k : Int, 1 ≤ k → k < n → 0 ≤ wh k.toNat ∧ wh k.toNat < k := fun k k1 k2 => by have := (h.2.2.1 k k1 k2).1; omega
  have hn := h.1.1
  refine ⟨rfl, fun k k1 k2 => ?_, fun k _ _ => dpt_nn 300 _⟩
  have q := hw k k1 k2
  unfold dep
  rw [show ((k.toNat : Nat) : Int) = k by omega, show (((wh k.toNat).toNat : Nat) : Int) = wh k.toNat by omega]
  conv => lhs; rw [dpt, if_neg (by omega : ¬ k ≤ 0)]
  rw [dpt_more hw 299 (wh k.toNat) (by omega) (by omega)]
theorem lengthTo_c {P F n E k : Int} {w tok mk wh by_ ld de : Nat → Int} (h : BF P F w tok n E mk wh by_ ld) (hd : DE n wh de) (hk : 0 ≤ k ∧ k < n) : F_X6_lengthTo k wh = some (de k.toNat) := by
  have hn := h.1.1
  have key : ∀ (fu : Nat) (l k : Int), 0 ≤ k → k < n → k < fu → F_X6_lengthTo_b4 wh fu l k = some (l + de k.toNat) := by
    intro fu
    induction fu with
    | zero => intro l k h1 h2 h3; exact absurd h3 (by omega)
    | succ fu ih =>
      intro l k h1 h2 h3
      show F_X6_lengthTo_b4_body wh (F_X6_lengthTo_b4 wh fu) l k = _
      unfold F_X6_lengthTo_b4_body
      refine G_i (by omega) ?_
      by_cases c : k ≤ 0
      · refine if_i c ?_
        obtain rfl : k = 0 := by omega
        rw [show (0 : Int).toNat = 0 from rfl, hd.1]
        congr 1
        omega
      · have hq := (h.2.2.1 k (by omega) h2).1
        refine el_i c (Bd_i (G_i (by omega) (Bd_i ?_)))
        rw [ih (l + 1) (wh k.toNat) hq.1 (by omega) (by omega), hd.2.1 k (by omega) h2]
        congr 1
        omega
  unfold F_X6_lengthTo
  rw [key NN 0 k hk.1 hk.2 (NN_gt (by omega))]
  congr 1
  omega
/-- the first marking with so many tokens -/
theorem wished_c {P F n E x z : Int} {w tok mk wh by_ ld : Nat → Int} (h : BF P F w tok n E mk wh by_ ld) (hP : P ≤ 6) (hx : 0 ≤ x ∧ x < P) (hz : inR z) :
    (F_X6_wished_b8 P F tok w NN x z n 0 mk wh by_ ld = some (-1, mk, wh, by_, ld) ∧ ∀ m : Int, 0 ≤ m → m < n → row mk m x < z) ∨ (∃ i : Int, (0 ≤ i ∧ i < n) ∧ F_X6_wished_b8 P F tok w NN x z n 0 mk wh by_ ld = some (i, mk, wh, by_, ld) ∧ z ≤ row mk i x ∧ ∀ m : Int, 0 ≤ m → m < i → row mk m x < z) := by
  have hn := h.1.1
  have key : ∀ (fm : Nat) (k : Int), 0 ≤ k → k ≤ n → n - k < fm → (∀ m : Int, 0 ≤ m → m < k → row mk m x < z) → (F_X6_wished_b8 P F tok w fm x z n k mk wh by_ ld = some (-1, mk, wh, by_, ld) ∧ ∀ m : Int, 0 ≤ m → m < n → row mk m x < z) ∨ (∃ i : Int, (0 ≤ i ∧ i < n) ∧ F_X6_wished_b8 P F tok w fm x z n k mk wh by_ ld = some (i, mk, wh, by_, ld) ∧ z ≤ row mk i x ∧ ∀ m : Int, 0 ≤ m → m < i → row mk m x < z) := by
    intro fm
    induction fm with
    | zero => intro k h1 h2 h3; exact absurd h3 (by omega)
    | succ fm ih =>
      intro k h1 h2 h3 h4
      have e9 : F_X6_wished_b8 P F tok w (fm + 1) x z n k mk wh by_ ld = F_X6_wished_b8_body P F tok w (F_X6_wished_b8 P F tok w fm) x z n k mk wh by_ ld := rfl
      rw [e9]
      by_cases c : n ≤ k
      · refine Or.inl ⟨?_, fun m a b => h4 m a (by omega)⟩
        unfold F_X6_wished_b8_body
        exact G_i (by omega) (if_i c rfl)
      · have ht := h.2.1.1 k h1 (by omega) x hx.1 hx.2
        have e1 : mk (6 * k + x).toNat = row mk k x := rfl
        by_cases q : row mk k x < z
        · have eA : F_X6_wished_b8_body P F tok w (F_X6_wished_b8 P F tok w fm) x z n k mk wh by_ ld = F_X6_wished_b8 P F tok w fm x z n (k + 1) mk wh by_ ld := by
            unfold F_X6_wished_b8_body
            refine G_i (by omega) (el_i c (Bd_i (G_i (by omega) (Bd_i ?_))))
            rw [e1]
            exact G_i ⟨by omega, hz⟩ (if_i q (Bd_i rfl))
          rw [eA]
          exact ih (k + 1) (by omega) (by omega) (by omega) (fun m a b => by
            by_cases t : m = k
            · rw [t]; exact q
            · exact h4 m a (by omega))
        · refine Or.inr ⟨k, by omega, ?_, by omega, h4⟩
          unfold F_X6_wished_b8_body
          refine G_i (by omega) (el_i c (Bd_i (G_i (by omega) (Bd_i ?_))))
          rw [e1]
          exact G_i ⟨by omega, hz⟩ (el_i q rfl)
  exact key NN 0 (by omega) (by omega) (NN_gt (by omega)) (fun m a b => absurd b (by omega))
theorem RJ_cons {P F : Int} {w : Nat → Int} {t v : Int → Int} {f : Int} (hf : 0 ≤ f ∧ f < F) (hc : can P w t f) (he : eqP P v (aftM w t f)) : ∀ {j : Nat} {u : Int → Int}, RJ P F w v j u → RJ P F w t (j + 1) u
  | 0, _, q => ⟨t, f, fun _ _ _ => rfl, hf, hc, eqP_tr q he⟩
  | _ + 1, _, ⟨v', f', a, b, c, d⟩ => ⟨v', f', RJ_cons hf hc he a, b, c, d⟩
theorem de_le {P F n E : Int} {w tok mk wh by_ ld de : Nat → Int} (h : BF P F w tok n E mk wh by_ ld) (hd : DE n wh de) : ∀ (b : Nat) (k : Int), 0 ≤ k → k < n → k < b → de k.toNat ≤ k := by
  intro b
  induction b with
  | zero => intro k k1 k2 k3; exact absurd k3 (by omega)
  | succ b ih =>
    intro k k1 k2 k3
    by_cases q : k = 0
    · rw [q, show (0 : Int).toNat = 0 from rfl, hd.1]; omega
    · have a := (h.2.2.1 k (by omega) k2).1
      have := ih (wh k.toNat) a.1 (by omega) (by omega)
      have := hd.2.1 k (by omega) k2
      omega
/-- the firing with which a way of one firing at least begins -/
def beg (P F : Int) (w : Nat → Int) (t u : Int → Int) (d : Int) (f : Int) : Prop := (0 ≤ f ∧ f < F) ∧ can P w t f ∧ ∃ v : Int → Int, eqP P v (aftM w t f) ∧ RJ P F w v (d - 1).toNat u
theorem step_c {P F n E i : Int} {w tok mk wh by_ ld de : Nat → Int} (h : BF P F w tok n E mk wh by_ ld) (hd : DE n wh de) (hi : 0 ≤ i ∧ i < n) (h1 : 1 ≤ de i.toNat) : ∃ f, F_X6_step_b84 P F tok w NN 0 i (de i.toNat - 1) 0 mk wh by_ ld = some (f, 0, mk, wh, by_, ld) ∧ beg P F w (tk tok) (row mk i) (de i.toNat) f := by
  have hn := h.1.1
  have key : ∀ (fu : Nat) (m : Int) (j : Nat), 0 ≤ m → m < n → m < fu → 1 ≤ de m.toNat → de m.toNat + j = de i.toNat → RJ P F w (row mk m) j (row mk i) → ∃ f, F_X6_step_b84 P F tok w fu 0 m (de m.toNat - 1) 0 mk wh by_ ld = some (f, 0, mk, wh, by_, ld) ∧ beg P F w (tk tok) (row mk i) (de i.toNat) f := by
    intro fu
    induction fu with
    | zero => intro m j m1 m2 m3; exact absurd m3 (by omega)
    | succ fu ih =>
      intro m j m1 m2 m3 m4 m5 m6
      have q0 : m ≠ 0 := fun z => by
        rw [z, show (0 : Int).toNat = 0 from rfl, hd.1] at m4
        omega
      obtain ⟨a, c, e⟩ := h.2.2.1 m (by omega) m2
      have d1 := hd.2.1 m (by omega) m2
      have d0 := hd.2.2 (wh m.toNat) a.1 (by omega)
      have dm := hd.2.2 i hi.1 hi.2
      have up : ∀ (x : Int), 1 ≤ x → x < n → 1 ≤ de x.toNat := fun x x1 x2 => by
        have := hd.2.1 x x1 x2
        have := hd.2.2 (wh x.toNat) (h.2.2.1 x x1 x2).1.1 (by have := (h.2.2.1 x x1 x2).1; omega)
        omega
      have b1 := de_le h hd (m.toNat + 1) m m1 m2 (by omega)
      show ∃ f, F_X6_step_b84_body P F tok w (F_X6_step_b84 P F tok w fu) 0 m (de m.toNat - 1) 0 mk wh by_ ld = some (f, 0, mk, wh, by_, ld) ∧ _
      unfold F_X6_step_b84_body
      by_cases y : de m.toNat - 1 ≤ 0
      · have w0 : wh m.toNat = 0 := by
          refine Decidable.byContradiction fun z => ?_
          have := up (wh m.toNat) (by omega) (by omega)
          omega
        rw [w0] at c e
        have hj : (de i.toNat - 1).toNat = j := by omega
        refine ⟨by_ m.toNat, G_i (by omega) (if_i y (G_i (by omega) (Bd_i rfl))), ⟨a.2.2.1, a.2.2.2.1⟩, can_eq (eqP_sm h.1.2) c, row mk m, eqP_tr e (aft_eq h.1.2), ?_⟩
        rw [hj]
        exact m6
      · obtain ⟨f, f1, f2⟩ := ih (wh m.toNat) (j + 1) a.1 (by omega) (by omega) (by omega) (by omega) (RJ_cons ⟨a.2.2.1, a.2.2.2.1⟩ c e m6)
        rw [show de (wh m.toNat).toNat - 1 = de m.toNat - 1 + (-1) by omega] at f1
        exact ⟨f, G_i (by omega) (el_i y (G_i (by omega) (Bd_i (Bd_i f1)))), f2⟩
  exact key NN i 0 hi.1 hi.2 (NN_gt (by omega)) h1 (by omega) (fun p _ _ => rfl)
theorem v_way {P F D L x z : Int} {tok w lg : Nat → Int} {q : Int × (Nat → Int) × (Nat → Int) × (Nat → Int) × (Nat → Int)} (hP : 0 ≤ P ∧ P ≤ 6) (h : GQ P F tok w q) (hx : 0 ≤ x ∧ x < P) (hz : 0 ≤ z ∧ z ≤ 99) :
    ∃ v, ax_way x z (P, F, D, L, tok, w, lg) = some (v, (P, F, D, L, tok, w, lg)) ∧ ((q.1 = -1 ∧ v = -1) ∨ (q.1 ≠ -1 ∧ v = -1 ∧ ∀ m : Int, 0 ≤ m → m < q.1 → row q.2.1 m x < z) ∨ (q.1 ≠ -1 ∧ ∃ i : Int, (0 ≤ i ∧ i < q.1) ∧ v = dep q.2.2.1 i.toNat ∧ z ≤ row q.2.1 i x ∧ (∀ m : Int, 0 ≤ m → m < i → row q.2.1 m x < z) ∧
      (∀ s : Int, inR s → 0 ≤ s → v ≤ s → ax_step x z s (P, F, D, L, tok, w, lg) = some (-1, (P, F, D, L, tok, w, lg))) ∧ (1 ≤ v → ∃ f, ax_step x z 0 (P, F, D, L, tok, w, lg) = some (f, (P, F, D, L, tok, w, lg)) ∧ beg P F w (tk tok) (row q.2.1 i) v f))) := by
  have hr := GQ_in h
  obtain ⟨qn, qm, qw, qb, ql⟩ := q
  obtain ⟨hq, hB⟩ := h
  dsimp only at hr
  have WI : ∀ i : Int, inR i → F_X6_wished_b8 P F tok w NN x z qn 0 qm qw qb ql = some (i, qm, qw, qb, ql) → ∀ v : Int, (i = -1 ∧ v = -1) ∨ (i ≠ -1 ∧ F_X6_lengthTo i qw = some v) → ax_way x z (P, F, D, L, tok, w, lg) = some (v, (P, F, D, L, tok, w, lg)) := fun i hi hw v hv => by
    unfold ax_way F_X6_way F_X6_way_b30 F_X6_wished
    refine Ob_i (y := (v, 0, qm, qw, qb, ql)) (Ob_i (isPlace_c hP hx) (G_i (by omega) (el_i (by omega) (Ob_i (in_c (by omega) (by omega) (by omega) (by omega)) (G_i (by omega) (el_i (by omega) (Ob_i goesWell_0 (G_i (by omega) (el_i (by omega) (Ob_i (Ob_i hq hw) (G_i ⟨hi, by omega⟩ ?_))))))))))) rfl
    rcases hv with ⟨h1, rfl⟩ | ⟨h1, h2⟩
    · exact if_i h1 rfl
    · exact el_i h1 (Ob_i h2 rfl)
  rcases hB with ⟨a, -⟩ | ⟨a, b⟩
  · dsimp only at a
    subst a
    exact ⟨-1, WI (-1) (by omega) wished_none (-1) (Or.inl ⟨rfl, rfl⟩), Or.inl ⟨rfl, rfl⟩⟩
  · dsimp only at a b
    have hD := dep_DE b
    rcases wished_c b hP.2 hx (by omega : inR z) with ⟨w1, w2⟩ | ⟨i, hi, w1, w2, w3⟩
    · exact ⟨-1, WI (-1) (by omega) w1 (-1) (Or.inl ⟨rfl, rfl⟩), Or.inr (Or.inl ⟨a, rfl, w2⟩)⟩
    · have hn := b.1.1
      have hl := lengthTo_c b hD hi
      have hle := de_le b hD (i.toNat + 1) i hi.1 hi.2 (by omega)
      have h0 := hD.2.2 i hi.1 hi.2
      have ST : ∀ (s v : Int), inR s → 0 ≤ s → F_X6_step_b68 P F tok w s i (dep qw i.toNat) 0 qm qw qb ql = some (v, 0, qm, qw, qb, ql) → ax_step x z s (P, F, D, L, tok, w, lg) = some (v, (P, F, D, L, tok, w, lg)) := fun s v s1 s2 hv => by
        unfold ax_step F_X6_step F_X6_step_b36 F_X6_wished
        exact Ob_i (y := (v, 0, qm, qw, qb, ql)) (Ob_i (isPlace_c hP hx) (G_i (by omega) (el_i (by omega) (Ob_i (in_c (by omega) (by omega) (by omega) (by omega)) (G_i (by omega) (el_i (by omega) (G_i s1 (el_i (by omega) (Ob_i goesWell_0 (G_i (by omega) (el_i (by omega) (Ob_i (Ob_i hq w1) (G_i (by dsimp only; omega) (el_i (by dsimp only; omega) (Ob_i hl hv))))))))))))))) rfl
      refine ⟨_, WI i (by omega) w1 _ (Or.inr ⟨by omega, hl⟩), Or.inr (Or.inr ⟨a, i, hi, rfl, w2, w3, fun s s1 s2 s3 => ST s (-1) s1 s2 ?_, fun s1 => ?_⟩)⟩
      · unfold F_X6_step_b68
        exact G_i ⟨s1, by omega⟩ (el_i (by omega) rfl)
      · obtain ⟨f, f1, f2⟩ := step_c b hD hi s1
        refine ⟨f, ST 0 f (by omega) (by omega) ?_, f2⟩
        unfold F_X6_step_b68
        exact G_i ⟨by omega, by omega⟩ (if_i (by omega) (Bd_i f1))
theorem v_can {P F D L f : Int} {tok w lg : Nat → Int} (hw : wOk w) (hP : 0 ≤ P ∧ P ≤ 6) (hF : 0 ≤ F ∧ F ≤ 8) (ht : tOk P (tk tok)) (hf : 0 ≤ f ∧ f < F) (hc : can P w (tk tok) f) : ax_can f (P, F, D, L, tok, w, lg) = some (1, (P, F, D, L, tok, w, lg)) := by
  obtain ⟨m0, l1, l2, -⟩ := layNow_ok (tok := tok) (marks := zf) hP
  have hrow : tOk P (row m0 0) := fun p p1 p2 => by rw [l2 p p1 p2]; exact ht p p1 p2
  obtain ⟨r9, g9, i9⟩ := canIn_ok (marks := m0) (m := 0) (f := f) hP hw (by omega) (by omega) hrow
  have z9 : r9 = 1 := by
    rcases i9 with q | q
    · exact q.1
    · exact absurd (can_eq l2 hc) q.2
  subst z9
  unfold ax_can F_X6_can F_X6_can_b18
  exact Ob_i (y := (1, 0, m0)) (Ob_i l1 (Ob_i (isFiring_c hF hf) (G_i (by omega) (el_i (by omega) (Ob_i goesWell_0 (G_i (by omega) (el_i (by omega) (Ob_i g9 (G_i (by omega) (el_i (by omega) (G_i (by omega) rfl)))))))))))  rfl
theorem v_fire {P F D L f : Int} {tok w lg : Nat → Int} (hw : wOk w) (hP : 0 ≤ P ∧ P ≤ 6) (hF : 0 ≤ F ∧ F ≤ 8) (ht : tOk P (tk tok)) (hf : 0 ≤ f ∧ f < F) (hc : can P w (tk tok) f) : ∃ tok', dx_fire f (P, F, D, L, tok, w, lg) = some (D + 1, (P, F, D + 1, L, tok', w, lg)) ∧ eqP P (tk tok') (aftM w (tk tok) f) := by
  obtain ⟨m0, l1, l2, -⟩ := layNow_ok (tok := tok) (marks := zf) hP
  have hrow : tOk P (row m0 0) := fun p p1 p2 => by rw [l2 p p1 p2]; exact ht p p1 p2
  obtain ⟨r9, g9, i9⟩ := canIn_ok (marks := m0) (m := 0) (f := f) hP hw (by omega) (by omega) hrow
  have z9 : r9 = 1 := by
    rcases i9 with q | q
    · exact q.1
    · exact absurd (can_eq l2 hc) q.2
  subst z9
  obtain ⟨⟨a1, a2, a3, a4, a5⟩, b1, b2, b3, b4, b5, b6⟩ := fire_loop (th := 0) (fd := D) (mk := m0) hw hP (by omega : 0 ≤ f ∧ f < 8) ht
  dsimp only at b2 b3 b4 b5 b6
  subst b2 b3 b4 b5
  refine ⟨a4, ?_, b6⟩
  unfold dx_fire F_X6_fire F_X6_fire_b33
  exact Ob_i (Ob_i l1 (Ob_i (isFiring_c hF hf) (G_i (by omega) (el_i (by omega) (Ob_i g9 (G_i (by omega) (el_i (by omega) (Ob_i goesWell_0 (G_i (by omega) (el_i (by omega) b1)))))))))) (G_i rfl rfl)
