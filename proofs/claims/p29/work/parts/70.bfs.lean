/-! the search in breadth: what its rows say -/
/-- so many firings lead from t to u -/
def RJ (P F : Int) (w : Nat → Int) (t : Int → Int) : Nat → (Int → Int) → Prop
  | 0, u => eqP P u t
  | n + 1, u => ∃ (v : Int → Int) (f : Int), RJ P F w t n v ∧ (0 ≤ f ∧ f < F) ∧ can P w v f ∧ eqP P u (aftM w v f)
theorem eqP_sm {P : Int} {t u : Int → Int} (h : eqP P t u) : eqP P u t := fun p a b => (h p a b).symm
theorem eqP_tr {P : Int} {t u v : Int → Int} (h : eqP P t u) (g : eqP P u v) : eqP P t v := fun p a b => (h p a b).trans (g p a b)
theorem RJ_eq {P F : Int} {w : Nat → Int} {t u u' : Int → Int} (h : eqP P u' u) : ∀ {n : Nat}, RJ P F w t n u → RJ P F w t n u'
  | 0, q => eqP_tr h q
  | _ + 1, ⟨v, f, a, b, c, d⟩ => ⟨v, f, a, b, c, eqP_tr h d⟩
theorem can_eq {P : Int} {w : Nat → Int} {t u : Int → Int} {f : Int} (h : eqP P t u) (c : can P w u f) : can P w t f := fun p a b => by
  have q := c p a b
  have e := h p a b
  unfold okp aft at q ⊢
  rw [e]
  exact q
theorem aft_eq {P : Int} {w : Nat → Int} {t u : Int → Int} {f : Int} (h : eqP P t u) : eqP P (aftM w t f) (aftM w u f) := fun p a b => by
  unfold aftM aft
  rw [h p a b]
theorem RJ_st {P F : Int} {w : Nat → Int} {t t' : Int → Int} (h : eqP P t t') : ∀ {n : Nat} {u : Int → Int}, RJ P F w t n u → RJ P F w t' n u
  | 0, _, q => eqP_tr q h
  | _ + 1, _, ⟨v, f, a, b, c, d⟩ => ⟨v, f, RJ_st h a, b, c, d⟩
/-- nodes and edges so far: E edges were looked at -/
def BF (P F : Int) (w tok : Nat → Int) (n E : Int) (mk wh by_ ld : Nat → Int) : Prop :=
  ((1 ≤ n ∧ n ≤ 300) ∧ eqP P (row mk 0) (tk tok)) ∧ ((∀ k : Int, 0 ≤ k → k < n → tOk P (row mk k)) ∧ (∀ j k : Int, 0 ≤ j → j < k → k < n → ¬ eqP P (row mk j) (row mk k))) ∧
  (∀ k : Int, 1 ≤ k → k < n → (0 ≤ wh k.toNat ∧ wh k.toNat < k ∧ 0 ≤ by_ k.toNat ∧ by_ k.toNat < F ∧ 8 * wh k.toNat + by_ k.toNat < E) ∧ can P w (row mk (wh k.toNat)) (by_ k.toNat) ∧ eqP P (row mk k) (aftM w (row mk (wh k.toNat)) (by_ k.toNat))) ∧
  (∀ j k : Int, 1 ≤ j → j < k → k < n → 8 * wh j.toNat + by_ j.toNat < 8 * wh k.toNat + by_ k.toNat) ∧
  (∀ m f : Int, 0 ≤ m → m < n → 0 ≤ f → f < F → 8 * m + f < E →
    (can P w (row mk m) f → (0 ≤ ld (8 * m + f).toNat ∧ ld (8 * m + f).toNat < n) ∧ eqP P (row mk (ld (8 * m + f).toNat)) (aftM w (row mk m) f) ∧ (1 ≤ ld (8 * m + f).toNat → 8 * wh (ld (8 * m + f).toNat).toNat + by_ (ld (8 * m + f).toNat).toNat ≤ 8 * m + f)) ∧
    (¬ can P w (row mk m) f → ld (8 * m + f).toNat = -1))
theorem BF_mk {P F n E : Int} {w tok mk wh by_ ld mk' : Nat → Int} (hP : 0 ≤ P ∧ P ≤ 6) (h : BF P F w tok n E mk wh by_ ld) (hk : ∀ j : Nat, (j : Int) < 6 * n → mk' j = mk j) : BF P F w tok n E mk' wh by_ ld := by
  obtain ⟨⟨hn, h0⟩, ⟨h1, h2⟩, h3, h4, h5⟩ := h
  have hr : ∀ k : Int, 0 ≤ k → k < n → eqP P (row mk' k) (row mk k) := fun k k1 k2 p p1 p2 => hk _ (by omega)
  refine ⟨⟨hn, eqP_tr (hr 0 (by omega) (by omega)) h0⟩, ⟨fun k k1 k2 p p1 p2 => ?_, fun j k j1 j2 j3 z => ?_⟩, fun k k1 k2 => ?_, h4, fun m f m1 m2 f1 f2 e => ?_⟩
  · rw [hr k k1 k2 p p1 p2]; exact h1 k k1 k2 p p1 p2
  · exact h2 j k j1 j2 j3 (eqP_tr (eqP_sm (hr j j1 (by omega))) (eqP_tr z (hr k (by omega) j3)))
  · obtain ⟨a, b, c⟩ := h3 k k1 k2
    have q := hr (wh k.toNat) a.1 (by omega)
    exact ⟨a, can_eq q b, eqP_tr (hr k (by omega) k2) (eqP_tr c (eqP_sm (aft_eq q)))⟩
  · obtain ⟨a, b⟩ := h5 m f m1 m2 f1 f2 e
    have q := hr m m1 m2
    refine ⟨fun c => ?_, fun c => b (fun z => c (can_eq q z))⟩
    obtain ⟨a1, a2, a3⟩ := a (can_eq (eqP_sm q) c)
    exact ⟨a1, eqP_tr (hr _ a1.1 a1.2) (eqP_tr a2 (eqP_sm (aft_eq q))), a3⟩
theorem BF_none {P F n m f : Int} {w tok mk wh by_ ld : Nat → Int} (h : BF P F w tok n (8 * m + f) mk wh by_ ld) (hm : 0 ≤ m) (hf : 0 ≤ f ∧ f < F ∧ F ≤ 8) (hc : ¬ can P w (row mk m) f) : BF P F w tok n (8 * m + (f + 1)) mk wh by_ (uI ld (8 * m + f).toNat (-1)) := by
  obtain ⟨h0, h1, h3, h4, h5⟩ := h
  refine ⟨h0, h1, fun k k1 k2 => ?_, h4, fun m' f' m1 m2 f1 f2 e => ?_⟩
  · obtain ⟨a, b⟩ := h3 k k1 k2
    exact ⟨by omega, b⟩
  · by_cases q : 8 * m' + f' = 8 * m + f
    · have e1 : m' = m := by omega
      have e2 : f' = f := by omega
      subst e1 e2
      exact ⟨fun c => absurd c hc, fun _ => uI_same _ _ _⟩
    · rw [uI_ne _ _ (by omega)]
      exact h5 m' f' m1 m2 f1 f2 (by omega)
theorem BF_old {P F n m f k : Int} {w tok mk wh by_ ld : Nat → Int} (h : BF P F w tok n (8 * m + f) mk wh by_ ld) (hm : 0 ≤ m) (hf : 0 ≤ f ∧ f < F ∧ F ≤ 8) (hc : can P w (row mk m) f) (hk : 0 ≤ k ∧ k < n) (he : eqP P (row mk k) (aftM w (row mk m) f)) : BF P F w tok n (8 * m + (f + 1)) mk wh by_ (uI ld (8 * m + f).toNat k) := by
  obtain ⟨h0, h1, h3, h4, h5⟩ := h
  refine ⟨h0, h1, fun k k1 k2 => ?_, h4, fun m' f' m1 m2 f1 f2 e => ?_⟩
  · obtain ⟨a, b⟩ := h3 k k1 k2
    exact ⟨by omega, b⟩
  · by_cases q : 8 * m' + f' = 8 * m + f
    · have e1 : m' = m := by omega
      have e2 : f' = f := by omega
      subst e1 e2
      rw [uI_same]
      refine ⟨fun _ => ⟨hk, he, fun k1 => ?_⟩, fun c => absurd hc c⟩
      have := (h3 k k1 hk.2).1
      omega
    · rw [uI_ne _ _ (by omega)]
      exact h5 m' f' m1 m2 f1 f2 (by omega)
theorem BF_new {P F n m f : Int} {w tok mk wh by_ ld : Nat → Int} (h : BF P F w tok n (8 * m + f) mk wh by_ ld) (hm : 0 ≤ m ∧ m < n) (hn : n < 300) (hf : 0 ≤ f ∧ f < F ∧ F ≤ 8) (hc : can P w (row mk m) f) (ht : tOk P (row mk n)) (he : eqP P (row mk n) (aftM w (row mk m) f)) (hd : ∀ k : Int, 0 ≤ k → k < n → ¬ eqP P (row mk k) (row mk n)) : BF P F w tok (n + 1) (8 * m + (f + 1)) mk (uI wh n.toNat m) (uI by_ n.toNat f) (uI ld (8 * m + f).toNat n) := by
  obtain ⟨⟨h0, h0'⟩, ⟨h1, h2⟩, h3, h4, h5⟩ := h
  refine ⟨⟨by omega, h0'⟩, ⟨fun k k1 k2 => ?_, fun j k j1 j2 j3 => ?_⟩, fun k k1 k2 => ?_, fun j k j1 j2 j3 => ?_, fun m' f' m1 m2 f1 f2 e => ?_⟩
  · by_cases q : k = n
    · rw [q]; exact ht
    · exact h1 k k1 (by omega)
  · by_cases q : k = n
    · rw [q]; exact hd j j1 (by omega)
    · exact h2 j k j1 j2 (by omega)
  · by_cases q : k = n
    · subst q
      rw [uI_same, uI_same]
      exact ⟨by omega, hc, he⟩
    · obtain ⟨a, b⟩ := h3 k k1 (by omega)
      rw [uI_ne _ _ (by omega), uI_ne _ _ (by omega)]
      exact ⟨by omega, b⟩
  · rw [uI_ne wh _ (by omega : j.toNat ≠ n.toNat), uI_ne by_ _ (by omega : j.toNat ≠ n.toNat)]
    by_cases q : k = n
    · subst q
      rw [uI_same, uI_same]
      exact (h3 j j1 (by omega)).1.2.2.2.2
    · rw [uI_ne _ _ (by omega), uI_ne _ _ (by omega)]
      exact h4 j k j1 j2 (by omega)
  · by_cases q : 8 * m' + f' = 8 * m + f
    · have e1 : m' = m := by omega
      have e2 : f' = f := by omega
      subst e1 e2
      rw [uI_same, uI_same, uI_same]
      exact ⟨fun _ => ⟨by omega, he, fun _ => Int.le_refl _⟩, fun c => absurd hc c⟩
    · rw [uI_ne _ _ (by omega)]
      by_cases qm : m' = n
      · subst qm
        omega
      · obtain ⟨a, b⟩ := h5 m' f' m1 (by omega) f1 f2 (by omega)
        refine ⟨fun c => ?_, b⟩
        obtain ⟨a1, a2, a3⟩ := a c
        refine ⟨by omega, a2, fun k1 => ?_⟩
        rw [uI_ne wh _ (by omega), uI_ne by_ _ (by omega)]
        exact a3 k1
theorem BF_reach {P F n E : Int} {w tok mk wh by_ ld : Nat → Int} (h : BF P F w tok n E mk wh by_ ld) : ∀ (b : Nat) (k : Int), 0 ≤ k → k < n → k < b → ∃ j, RJ P F w (tk tok) j (row mk k) := by
  obtain ⟨⟨h0, h0'⟩, ⟨h1, h2⟩, h3, h4, h5⟩ := h
  intro b
  induction b with
  | zero => intro k k1 k2 k3; exact absurd k3 (by omega)
  | succ b ih =>
    intro k k1 k2 k3
    by_cases q : k = 0
    · exact ⟨0, by rw [q]; exact h0'⟩
    · obtain ⟨a, c, d⟩ := h3 k (by omega) k2
      obtain ⟨j, hj⟩ := ih (wh k.toNat) a.1 (by omega) (by omega)
      exact ⟨j + 1, _, _, hj, ⟨a.2.2.1, a.2.2.2.1⟩, c, d⟩
/-- too many: 301 markings, all different, all come to -/
def TM (P F : Int) (w tok : Nat → Int) : Prop := ∃ T : Int → Int → Int, (∀ k : Int, 0 ≤ k → k ≤ 300 → ∃ j, RJ P F w (tk tok) j (T k)) ∧ ∀ i j : Int, 0 ≤ i → i < j → j ≤ 300 → ¬ eqP P (T i) (T j)
def BR (P F : Int) (w tok : Nat → Int) (q : Int × (Nat → Int) × (Nat → Int) × (Nat → Int) × (Nat → Int)) : Prop :=
  (q.1 = -1 ∧ TM P F w tok) ∨ (q.1 ≠ -1 ∧ BF P F w tok q.1 (8 * q.1) q.2.1 q.2.2.1 q.2.2.2.1 q.2.2.2.2)
theorem BF_skip {P F n m : Int} {w tok mk wh by_ ld : Nat → Int} (h : BF P F w tok n (8 * m + F) mk wh by_ ld) (hF : F ≤ 8) : BF P F w tok n (8 * (m + 1)) mk wh by_ ld := by
  obtain ⟨h0, h1, h3, h4, h5⟩ := h
  refine ⟨h0, h1, fun k k1 k2 => ?_, h4, fun m' f' m1 m2 f1 f2 e => ?_⟩
  · obtain ⟨a, b⟩ := h3 k k1 k2
    exact ⟨by omega, b⟩
  · exact h5 m' f' m1 m2 f1 f2 (by omega)
theorem bfs_m {P F m : Int} {w tok : Nat → Int} (hw : wOk w) (hP : 0 ≤ P ∧ P ≤ 6) (hF : 0 ≤ F ∧ F ≤ 8) (hm : 0 ≤ m ∧ m < 300) (ag15 : Int → Int → (Nat → Int) → (Nat → Int) → (Nat → Int) → (Nat → Int) → Option (Int × (Nat → Int) × (Nat → Int) × (Nat → Int) × (Nat → Int))) :
    ∀ (fm : Nat) (f n : Int) (mk wh by_ ld : Nat → Int), 0 ≤ f → f ≤ F → F - f < fm → m < n → BF P F w tok n (8 * m + f) mk wh by_ ld →
      (∃ q, F_X6_findAll_b22 P F tok w ag15 fm n m f mk wh by_ ld = some q ∧ (q.1 = -1 ∧ TM P F w tok)) ∨ (∃ n' mk' wh' by' ld', F_X6_findAll_b22 P F tok w ag15 fm n m f mk wh by_ ld = ag15 n' (m + 1) mk' wh' by' ld' ∧ m < n' ∧ BF P F w tok n' (8 * (m + 1)) mk' wh' by' ld') := by
  intro fm
  induction fm with
  | zero => intro f n mk wh by_ ld h1 h2 h3; exact absurd h3 (by omega)
  | succ fm ih =>
    intro f n mk wh by_ ld h1 h2 h3 hmn hB
    have hn := hB.1.1
    by_cases c : F ≤ f
    · obtain rfl : f = F := by omega
      have eA : F_X6_findAll_b22 P f tok w ag15 (fm + 1) n m f mk wh by_ ld = ag15 n (m + 1) mk wh by_ ld := by
        show F_X6_findAll_b22_body P f tok w ag15 (F_X6_findAll_b22 P f tok w ag15 fm) n m f mk wh by_ ld = _
        unfold F_X6_findAll_b22_body
        exact G_i (by omega) (if_i c rfl)
      exact Or.inr ⟨n, mk, wh, by_, ld, eA, hmn, BF_skip hB hF.2⟩
    · have hf : 0 ≤ f ∧ f < F := by omega
      have hf8 : 0 ≤ f ∧ f < 8 := by omega
      have hr := hB.2.1.1 m hm.1 hmn
      obtain ⟨r9, g9, i9⟩ := canIn_ok hP hw (by omega : 0 ≤ m ∧ m ≤ 300) hf8 hr
      by_cases hc : can P w (row mk m) f
      · have z9 : r9 = 1 := by
          rcases i9 with q | q
          · exact q.1
          · exact absurd hc q.2
        subst z9
        obtain ⟨ra, ga, a1, a2, a3, a4, a5, a6⟩ := findAfter_ok hP hw hf8 ⟨hm.1, hmn⟩ hn.2 (fun k k1 k2 => hB.2.1.1 k k1 k2) hc
        obtain ⟨an, mk'⟩ := ra
        dsimp only at a1 a2 a3 a4 a5 a6
        have eA : F_X6_findAll_b22 P F tok w ag15 (fm + 1) n m f mk wh by_ ld = F_X6_findAll_b54 P F tok w ag15 (F_X6_findAll_b22 P F tok w ag15 fm) n m f an mk' wh by_ ld := by
          show F_X6_findAll_b22_body P F tok w ag15 (F_X6_findAll_b22 P F tok w ag15 fm) n m f mk wh by_ ld = _
          unfold F_X6_findAll_b22_body
          refine G_i (by omega) (el_i c (Ob_i g9 (G_i (by omega) (el_i (by omega) (Ob_i ga rfl)))))
        have hB' := BF_mk (mk' := mk') hP hB (fun j hj => a4 j (Or.inl hj))
        have hrm : eqP P (row mk' m) (row mk m) := fun p p1 p2 => a4 _ (Or.inl (by omega))
        have hc' : can P w (row mk' m) f := can_eq hrm hc
        have he' : eqP P (row mk' n) (aftM w (row mk' m) f) := eqP_tr a3 (eqP_sm (aft_eq hrm))
        have htn : tOk P (row mk' n) := fun p p1 p2 => by
          rw [a3 p p1 p2]
          have q := hc p p1 p2
          have w1 := hw.1 1 f p (by omega) (by omega) hf8.1 hf8.2 p1 (by omega)
          refine ⟨?_, q.2.2.2⟩
          have := q.1
          unfold aftM aft
          split <;> omega
        by_cases q1 : an < n
        · have eB : F_X6_findAll_b54 P F tok w ag15 (F_X6_findAll_b22 P F tok w ag15 fm) n m f an mk' wh by_ ld = F_X6_findAll_b22 P F tok w ag15 fm n m (f + 1) mk' wh by_ (uI ld (8 * m + f).toNat an) := by
            unfold F_X6_findAll_b54 F_X6_findAll_b102
            refine G_i (by omega) (el_i (by omega) (Bd_i (G_i (by omega) (Bd_i (G_i (by omega) (el_i (by omega) (Bd_i rfl)))))))
          rw [eA, eB]
          exact ih (f + 1) n mk' wh by_ _ (by omega) (by omega) (by omega) hmn (BF_old hB' hm.1 ⟨hf.1, hf.2, hF.2⟩ hc' ⟨a1, q1⟩ (eqP_tr a5 he'))
        · have han : an = n := by omega
          subst han
          by_cases q2 : an = 300
          · have eB : F_X6_findAll_b54 P F tok w ag15 (F_X6_findAll_b22 P F tok w ag15 fm) an m f an mk' wh by_ ld = some (-1, mk', wh, by_, ld) := by
              unfold F_X6_findAll_b54
              exact G_i (by omega) (if_i q2 rfl)
            refine Or.inl ⟨_, eA.trans eB, rfl, row mk', fun k k1 k2 => ?_, fun i j i1 i2 i3 => ?_⟩
            · by_cases q : k = an
              · obtain ⟨j, hj⟩ := BF_reach hB' (m.toNat + 1) m hm.1 hmn (by omega)
                rw [q]
                exact ⟨j + 1, _, _, hj, hf, hc', he'⟩
              · exact BF_reach hB' (k.toNat + 1) k k1 (by omega) (by omega)
            · by_cases q : j = an
              · rw [q]; exact a6 i i1 (by omega)
              · exact hB'.2.1.2 i j i1 i2 (by omega)
          · have eB : F_X6_findAll_b54 P F tok w ag15 (F_X6_findAll_b22 P F tok w ag15 fm) an m f an mk' wh by_ ld = F_X6_findAll_b22 P F tok w ag15 fm (an + 1) m (f + 1) mk' (uI wh an.toNat m) (uI by_ an.toNat f) (uI ld (8 * m + f).toNat an) := by
              unfold F_X6_findAll_b54 F_X6_findAll_b102
              refine G_i (by omega) (el_i q2 (Bd_i (G_i (by omega) (Bd_i (G_i (by omega) (if_i rfl (G_i (by omega) (Bd_i (G_i (by omega) (Bd_i (Bd_i (Bd_i rfl))))))))))))
            rw [eA, eB]
            exact ih (f + 1) (an + 1) mk' _ _ _ (by omega) (by omega) (by omega) (by omega) (BF_new hB' ⟨hm.1, hmn⟩ (by omega) ⟨hf.1, hf.2, hF.2⟩ hc' htn he' a6)
      · have z9 : r9 = 0 := by
          rcases i9 with q | q
          · exact absurd q.2 hc
          · exact q.1
        subst z9
        have eA : F_X6_findAll_b22 P F tok w ag15 (fm + 1) n m f mk wh by_ ld = F_X6_findAll_b22 P F tok w ag15 fm n m (f + 1) mk wh by_ (uI ld (8 * m + f).toNat (-1)) := by
          show F_X6_findAll_b22_body P F tok w ag15 (F_X6_findAll_b22 P F tok w ag15 fm) n m f mk wh by_ ld = _
          unfold F_X6_findAll_b22_body F_X6_findAll_b54 F_X6_findAll_b102
          refine G_i (by omega) (el_i c (Ob_i g9 (G_i (by omega) (if_i rfl (G_i (by omega) (el_i (by omega) (Bd_i (G_i (by omega) (Bd_i (G_i (by omega) (el_i (by omega) (Bd_i rfl))))))))))))
        rw [eA]
        exact ih (f + 1) n mk wh by_ _ (by omega) (by omega) (by omega) hmn (BF_none hB hm.1 ⟨hf.1, hf.2, hF.2⟩ hc)
theorem bfs_all {P F : Int} {w tok : Nat → Int} (hw : wOk w) (hP : 0 ≤ P ∧ P ≤ 6) (hF : 0 ≤ F ∧ F ≤ 8) :
    ∀ (fm : Nat) (m n : Int) (mk wh by_ ld : Nat → Int), 0 ≤ m → m ≤ n → 300 - m < fm → BF P F w tok n (8 * m) mk wh by_ ld → ∃ q, F_X6_findAll_b15 P F tok w fm n m mk wh by_ ld = some q ∧ BR P F w tok q := by
  intro fm
  induction fm with
  | zero => intro m n mk wh by_ ld h1 h2 h3 h4; exact absurd h3 (by have := h4.1.1; omega)
  | succ fm ih =>
    intro m n mk wh by_ ld h1 h2 h3 h4
    have hn := h4.1.1
    show ∃ q, F_X6_findAll_b15_body P F tok w (F_X6_findAll_b15 P F tok w fm) n m mk wh by_ ld = some q ∧ _
    unfold F_X6_findAll_b15_body
    refine G_e (by omega) ?_
    by_cases c : n ≤ m
    · obtain rfl : n = m := by omega
      exact if_e c (so_e (Or.inr ⟨by dsimp only; omega, h4⟩))
    · refine el_e c ?_
      rcases bfs_m (P := P) (F := F) (tok := tok) hw hP hF (⟨h1, by omega⟩ : 0 ≤ m ∧ m < 300) (F_X6_findAll_b15 P F tok w fm) NN 0 n mk wh by_ ld (by omega) hF.1 (NN_gt (by omega)) (by omega) (by rw [Int.add_zero]; exact h4) with ⟨q, q1, q2⟩ | ⟨n', mk', wh', by', ld', q1, q2, q3⟩
      · exact ⟨q, q1, Or.inl q2⟩
      · rw [q1]
        exact ih (m + 1) n' mk' wh' by' ld' (by omega) (by omega) (by omega) q3
theorem bfs {P F : Int} {w tok : Nat → Int} (hw : wOk w) (hP : 0 ≤ P ∧ P ≤ 6) (hF : 0 ≤ F ∧ F ≤ 8) (ht : tOk P (tk tok)) (mk wh by_ ld : Nat → Int) : ∃ q, F_X6_findAll P F tok w mk wh by_ ld = some q ∧ BR P F w tok q := by
  obtain ⟨m0, l1, l2, -⟩ := layNow_ok (tok := tok) (marks := mk) hP
  unfold F_X6_findAll
  refine Ob_e l1 (G_e (by omega) (Bd_e ?_))
  refine bfs_all hw hP hF NN 0 1 m0 _ by_ ld (by omega) (by omega) (NN_gt (by omega)) ⟨⟨by omega, l2⟩, ⟨fun k k1 k2 => ?_, fun j k j1 j2 j3 => absurd j3 (by omega)⟩, fun k k1 k2 => absurd k2 (by omega), fun j k j1 j2 j3 => absurd j3 (by omega), fun m f m1 m2 f1 f2 e => absurd e (by omega)⟩
  obtain rfl : k = 0 := by omega
  exact fun p p1 p2 => by rw [l2 p p1 p2]; exact ht p p1 p2
