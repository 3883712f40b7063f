/-! the graph: class and reference in step -/
def cntE (F : Int) (ld : Nat → Int) : Nat → Int
  | 0 => 0
  | E + 1 => cntE F ld E + (if ((E % 8 : Nat) : Int) < F ∧ ld E ≠ -1 then 1 else 0)
def endsE (F : Int) (ld : Nat → Int) : Nat → Int
  | 0 => 0
  | m + 1 => endsE F ld m + (if cntE F ld (8 * (m + 1)) = cntE F ld (8 * m) then 1 else 0)
theorem cntE_cong {F : Int} {a b : Nat → Int} : ∀ E : Nat, (∀ e, e < E → a e = b e) → cntE F a E = cntE F b E
  | 0, _ => rfl
  | E + 1, h => by rw [cntE, cntE, h E (by omega), cntE_cong E (fun e he => h e (by omega))]
theorem endsE_cong {F : Int} {a b : Nat → Int} : ∀ m : Nat, (∀ e, e < 8 * m → a e = b e) → endsE F a m = endsE F b m
  | 0, _ => rfl
  | m + 1, h => by rw [endsE, endsE, endsE_cong m (fun e he => h e (by omega)), cntE_cong (8 * (m + 1)) h, cntE_cong (8 * m) (fun e he => h e (by omega))]
theorem skip8 {F n : Int} {E : Nat} {ta la ne ld : Nat → Int} (h : ER F E n ta la ne ld) : ∀ j : Nat, (∀ i, i < j → ¬ (((E + i) % 8 : Nat) : Int) < F) → ER F (E + j) n ta la ne ld ∧ cntE F ld (E + j) = cntE F ld E
  | 0, _ => ⟨h, rfl⟩
  | j + 1, g => by
    have q := skip8 h j (fun i hi => g i (by omega))
    have z := g j (by omega)
    refine ⟨ER_skip q.1 z, ?_⟩
    show cntE F ld (E + j + 1) = _
    rw [cntE, if_neg (fun y => z y.1), q.2]
    omega
theorem NR_cong {P F n : Int} {found : Nat → Int64} {de fb mk wh by_ mk' : Nat → Int} (h : NR P F n found de fb mk wh by_) (hP : 0 ≤ P ∧ P ≤ 6) (hk : ∀ j : Nat, j < 6 * n → mk' j = mk j) : NR P F n found de fb mk' wh by_ := by
  have hrow : ∀ k : Int, 0 ≤ k → k < n → ∀ p : Int, 0 ≤ p → p < P → row mk' k p = row mk k p := fun k k1 k2 p p1 p2 => hk _ (by omega)
  refine ⟨fun k k1 k2 => ?_, fun j k j1 j2 j3 z => ?_, h.2.2⟩
  · have := h.1 k k1 k2
    refine ⟨fun p p1 p2 => by rw [hrow k k1 k2 p p1 p2]; exact this.1 p p1 p2, this.2.trans (cut_eq (fun p p1 p2 => (hrow k k1 k2 p p1 p2).symm))⟩
  · refine h.2.1 j k j1 j2 j3 (fun p p1 p2 => ?_)
    have := z p p1 p2
    rw [hrow j j1 (by omega) p p1 p2, hrow k (by omega) j3 p p1 p2] at this
    exact this
theorem follow_ok {c e d tg : Int} {x : Int64} {found : Nat → Int64} {slots de fb ta la ne : Nat → Int} (H : HS c found slots) (hc : 0 ≤ c ∧ c ≤ 300) (he : 0 ≤ e ∧ e < 2400) :
    ∃ r, F_X1_follow e x d c tg found slots de fb ta la ne = some r ∧
      ((∃ k : Int, 0 ≤ k ∧ k < c ∧ found k.toNat = x ∧ r = (c, tg, found, slots, de, fb, uI ta e.toNat k, uI la k.toNat e, uI ne e.toNat (la k.toNat))) ∨
       ((∀ k : Int, 0 ≤ k → k < c → found k.toNat ≠ x) ∧ c = 300 ∧ r.2.1 = 1 ∧ r.1 = c) ∨
       ((∀ k : Int, 0 ≤ k → k < c → found k.toNat ≠ x) ∧ c < 300 ∧ ∃ slots', HS (c + 1) (uI found c.toNat x) slots' ∧ r = (c + 1, tg, uI found c.toNat x, slots', uI de c.toNat d, uI fb c.toNat e, uI ta e.toNat c, uI (uI la c.toNat (-1)) c.toNat e, uI ne e.toNat (uI la c.toNat (-1) c.toNat)))) := by
  obtain ⟨r, g1, g2⟩ := indexFor_ok (x := x) (e := e) (d := d) (depths := de) (foundBy := fb) (lastInto := la) H hc
  unfold F_X1_follow F_X1_follow_b23
  refine Ob_e g1 ?_
  obtain ⟨r1, r2⟩ := r
  rcases g2 with ⟨a1, a2, a3, a4⟩ | ⟨a1, a2, a3, a4⟩ | ⟨a1, a2, a3, slots', a4, a5⟩
  · dsimp only at a1 a2 a3 a4
    subst a4
    refine G_e (by dsimp only; omega) (el_e (by dsimp only; omega) (G_e (by dsimp only; omega) (if_e (by dsimp only; omega) (G_e (by omega) (Bd_e (G_e (by dsimp only; omega) (Bd_e (G_e (by omega) (Bd_e (G_e (by dsimp only; omega) (Bd_e ?_)))))))))))
    exact so_e (Or.inl ⟨r1, a1, a2, a3, rfl⟩)
  · dsimp only at a2 a3 a4
    subst a4
    refine G_e (by dsimp only; omega) (if_e (by dsimp only; omega) (G_e (by omega) ?_))
    exact so_e (Or.inr (Or.inl ⟨a1, a2, rfl, rfl⟩))
  · dsimp only at a2 a3 a5
    subst a5
    subst a3
    refine G_e (by dsimp only; omega) (el_e (by dsimp only; omega) (G_e (by dsimp only; omega) (if_e (by dsimp only; omega) (G_e (by omega) (Bd_e (G_e (by dsimp only; omega) (Bd_e (G_e (by omega) (Bd_e (G_e (by dsimp only; omega) (Bd_e ?_)))))))))))
    exact so_e (Or.inr (Or.inr ⟨a1, a2, slots', a4, rfl⟩))
def St (P F : Int) (tok : Nat → Int) (E : Nat) (n : Int) (found : Nat → Int64) (slots de fb ta la ne mk wh by_ ld : Nat → Int) : Prop :=
  (1 ≤ n ∧ n ≤ 300) ∧ HS n found slots ∧ NR P F n found de fb mk wh by_ ∧ ER F E n ta la ne ld ∧ wh 0 = -1 ∧ eqP P (row mk 0) (tk tok)
def EXr (P F m : Int) (tok : Nat → Int) (ag15 : Int → Int → (Nat → Int) → (Nat → Int) → (Nat → Int) → (Nat → Int) → Option (Int × (Nat → Int) × (Nat → Int) × (Nat → Int) × (Nat → Int))) (A : Option (Int × (Nat → Int) × (Nat → Int) × (Nat → Int) × (Nat → Int))) (r : (Int) × (Int) × (Int) × (Int) × (Nat → Int64) × (Nat → Int) × (Nat → Int) × (Nat → Int) × (Nat → Int) × (Nat → Int) × (Nat → Int)) : Prop :=
  (r.2.2.2.1 = 1 ∧ (∃ q, A = some q ∧ q.1 = -1) ∧ 1 ≤ r.1 ∧ r.1 ≤ 300) ∨
  (r.2.2.2.1 = 0 ∧ ∃ mk wh by_ ld, A = ag15 r.1 (m + 1) mk wh by_ ld ∧ m < r.1 ∧ St P F tok (8 * (m + 1)).toNat r.1 r.2.2.2.2.1 r.2.2.2.2.2.1 r.2.2.2.2.2.2.1 r.2.2.2.2.2.2.2.1 r.2.2.2.2.2.2.2.2.1 r.2.2.2.2.2.2.2.2.2.1 r.2.2.2.2.2.2.2.2.2.2 mk wh by_ ld ∧ r.2.1 = cntE F ld (8 * (m + 1)).toNat ∧ r.2.2.1 = endsE F ld (m + 1).toNat)
/-- a loop's two bounds, one behind the other -/
theorem two_o {α : Type} {f F : Int} {B X : Option α} {P : α → Prop} (h : 0 ≤ f ∧ f ≤ F ∧ F ≤ 8) (c : F ≤ f) (k : ∃ r, B = some r ∧ P r) : ∃ r, (if 8 ≤ f then B else G (inR f ∧ inR F) (if F ≤ f then B else X)) = some r ∧ P r := by
  by_cases q : 8 ≤ f
  · exact if_e q k
  · exact el_e q (G_e (by omega) (if_e c k))
theorem two_n {α : Type} {f F : Int} {B X : Option α} {P : α → Prop} (h : 0 ≤ f ∧ f ≤ F ∧ F ≤ 8) (c : ¬ F ≤ f) (k : ∃ r, X = some r ∧ P r) : ∃ r, (if 8 ≤ f then B else G (inR f ∧ inR F) (if F ≤ f then B else X)) = some r ∧ P r :=
  el_e (by omega) (G_e (by omega) (el_e c k))
theorem expand_lock {P F m : Int} {w tok : Nat → Int} {need bo em tak gi : Nat → Int64} (hp : packed F w need bo em tak gi) (hw : wOk w) (ho : wOut P w) (hP : 0 ≤ P ∧ P ≤ 6) (hF : 0 ≤ F ∧ F ≤ 8) (hm : 0 ≤ m ∧ m < 300) (ag15 : Int → Int → (Nat → Int) → (Nat → Int) → (Nat → Int) → (Nat → Int) → Option (Int × (Nat → Int) × (Nat → Int) × (Nat → Int) × (Nat → Int))) :
    ∀ (fu fm E : Nat) (f d n pairs ends : Int) (found : Nat → Int64) (slots de fb ta la ne mk wh by_ ld : Nat → Int), 0 ≤ f → f ≤ F → F - f < fu → F - f < fm → (E : Int) = 8 * m + f → m < n → St P F tok E n found slots de fb ta la ne mk wh by_ ld → pairs = cntE F ld (8 * m).toNat → ends = endsE F ld m.toNat → d = cntE F ld E - pairs → 0 ≤ d ∧ d ≤ f →
      ∃ r, F_X1_expand_b4 F need bo em tak gi fu m d f n pairs ends 0 found slots de fb ta la ne = some r ∧ EXr P F m tok ag15 (F_X6_findAll_b22 P F tok w ag15 fm n m f mk wh by_ ld) r := by
  intro fu
  induction fu with
  | zero => intro fm E f d n pairs ends found slots de fb ta la ne mk wh by_ ld h1 h2 h3; exact absurd h3 (by omega)
  | succ fu ih =>
    intro fm E f d n pairs ends found slots de fb ta la ne mk wh by_ ld h1 h2 h3 h4 hE hmn hS hpa hen hd hd2
    obtain ⟨fm, rfl⟩ : ∃ k, fm = k + 1 := ⟨fm - 1, by omega⟩
    show ∃ r, F_X1_expand_b4_body F need bo em tak gi (F_X1_expand_b4 F need bo em tak gi fu) m d f n pairs ends 0 found slots de fb ta la ne = some r ∧ EXr P F m tok ag15 (F_X6_findAll_b22_body P F tok w ag15 (F_X6_findAll_b22 P F tok w ag15 fm) n m f mk wh by_ ld) r
    unfold F_X1_expand_b4_body
    refine G_e (by omega) ?_
    obtain ⟨hn, hH, hN, hR, hw0, ht0⟩ := hS
    by_cases c : F ≤ f
    · -- the end of the marking's firings
      refine two_o ⟨h1, h2, hF.2⟩ c ?_
      have eA : F_X6_findAll_b22_body P F tok w ag15 (F_X6_findAll_b22 P F tok w ag15 fm) n m f mk wh by_ ld = ag15 n (m + 1) mk wh by_ ld := by
        unfold F_X6_findAll_b22_body
        exact G_i (by omega) (if_i c rfl)
      rw [eA]
      obtain ⟨k1, k2⟩ := skip8 hR (8 - f).toNat (fun i hi => by omega)
      rw [show E + (8 - f).toNat = (8 * (m + 1)).toNat by omega] at k1 k2
      have e1 : pairs + d = cntE F ld (8 * (m + 1)).toNat := by omega
      have e2 : endsE F ld (m + 1).toNat = ends + (if d = 0 then 1 else 0) := by
        rw [show (m + 1).toNat = m.toNat + 1 by omega, endsE, ← hen, show 8 * (m.toNat + 1) = (8 * (m + 1)).toNat by omega, show 8 * m.toNat = (8 * m).toNat by omega]
        by_cases q : d = 0
        · rw [if_pos q, if_pos (by omega)]
        · rw [if_neg q, if_neg (by omega)]
      unfold F_X1_expand_b98
      refine Bd_e (G_e (by omega) ?_)
      by_cases q : d = 0
      · refine if_e q (Bd_e (so_e (Or.inr ⟨rfl, mk, wh, by_, ld, rfl, hmn, ⟨hn, hH, hN, k1, hw0, ht0⟩, e1, ?_⟩)))
        show ends + 1 = _
        rw [e2, if_pos q]
      · refine el_e q (so_e (Or.inr ⟨rfl, mk, wh, by_, ld, rfl, hmn, ⟨hn, hH, hN, k1, hw0, ht0⟩, e1, ?_⟩))
        show ends = _
        rw [e2, if_neg q]; omega
    · refine two_n ⟨h1, h2, hF.2⟩ c (G_e (by omega) (if_e rfl (Bd_e ?_)))
      have hf : 0 ≤ f ∧ f < F := by omega
      have hf8 : 0 ≤ f ∧ f < 8 := by omega
      have hEm : ((E % 8 : Nat) : Int) < F := by omega
      rw [show m * 8 + f = (E : Int) by omega, show ((E : Int)).toNat = E from Int.toNat_natCast E]
      refine G_e (by omega) (Bd_e (G_e (by omega) (Bd_e ?_)))
      obtain ⟨hr, hfm⟩ := hN.1 m hm.1 hmn
      rw [hfm]
      obtain ⟨r8, g8, i8⟩ := allows_ok hp hw ho hP hF.2 hf (cut_b hr) cut_0
      refine Ob_e g8 (G_e (by rcases i8 with ⟨rfl, -⟩ | ⟨rfl, -⟩ <;> omega) ?_)
      obtain ⟨r9, g9, i9⟩ := canIn_ok hP hw (by omega : 0 ≤ m ∧ m ≤ 300) hf8 hr
      have pre : ∀ x : Int, ∀ e, e < E → uI ld E x e = ld e := fun x e he => uI_ne _ _ (by omega)
      have cnt1 : ∀ x : Int, cntE F (uI ld E x) (E + 1) = cntE F ld E + (if x ≠ -1 then 1 else 0) := fun x => by
        rw [cntE, uI_same, cntE_cong E (pre x)]
        by_cases q : x = -1
        · rw [if_neg (fun z => z.2 q), if_neg (fun z => z q)]
        · rw [if_pos ⟨hEm, q⟩, if_pos q]
      have cnt0 : ∀ x : Int, cntE F (uI ld E x) (8 * m).toNat = cntE F ld (8 * m).toNat := fun x => cntE_cong _ (fun e he => pre x e (by omega))
      have end0 : ∀ x : Int, endsE F (uI ld E x) m.toNat = endsE F ld m.toNat := fun x => endsE_cong _ (fun e he => pre x e (by omega))
      by_cases hc : can P w (row mk m) f
      · -- it can go
        have z8 : r8 = 1 := by
          rcases i8 with q | q
          · exact q.1
          · exact absurd (cut_can.mpr hc) q.2
        have z9 : r9 = 1 := by
          rcases i9 with q | q
          · exact q.1
          · exact absurd hc q.2
        subst z8 z9
        refine el_e (by omega) (Bd_e (G_e (by omega) (Bd_e ?_)))
        have hcc := cut_can.mpr hc
        have cb := cut_b hr
        have hd1 : ∀ p : Int, 0 ≤ p → p < 6 → wt w 0 f p ≤ cut P (row mk m) p := fun p p1 p2 => by
          by_cases q : p < P
          · exact (hcc p p1 q).1
          · rw [ho 0 f p (by omega) (by omega) hf8.1 hf8.2 (by omega) p2]
            exact (cb p p1 p2).1
        refine Ob_e (behind_ok hp hw hF.2 hf (bOk_le cb (by omega)) hd1 (bOk_le cb (by omega))) ?_
        refine G_e (by omega) (Bd_e ?_)
        obtain ⟨ra, ga, a1, a2, a3, a4, a5, a6⟩ := findAfter_ok hP hw hf8 ⟨hm.1, hmn⟩ hn.2 (fun k k1 k2 => (hN.1 k k1 k2).1) hc
        obtain ⟨an, mk'⟩ := ra
        dsimp only at a1 a2 a3 a4 a5 a6
        have eA : F_X6_findAll_b22_body P F tok w ag15 (F_X6_findAll_b22 P F tok w ag15 fm) n m f mk wh by_ ld = F_X6_findAll_b54 P F tok w ag15 (F_X6_findAll_b22 P F tok w ag15 fm) n m f an mk' wh by_ ld := by
          unfold F_X6_findAll_b22_body
          refine G_i (by omega) (el_i c (Ob_i g9 (G_i (by omega) (el_i (by omega) (Ob_i ga rfl)))))
        rw [eA, aft_cut ho hP.1 hf8 a3]
        have hN' := NR_cong hN hP (fun j hj => a4 j (Or.inl hj))
        have ht0' : eqP P (row mk' 0) (tk tok) := fun p p1 p2 => (a4 _ (Or.inl (by omega))).trans (ht0 p p1 p2)
        have htn : tOk P (row mk' n) := fun p p1 p2 => by
          rw [a3 p p1 p2]
          have q := hc p p1 p2
          have w1 := hw.1 1 f p (by omega) (by omega) hf8.1 hf8.2 p1 (by omega)
          refine ⟨?_, q.2.2.2⟩
          have := q.1
          unfold aftM aft
          split <;> omega
        obtain ⟨rf, gf, i⟩ := follow_ok (e := (E : Int)) (x := pk (cut P (row mk' n))) (d := de m.toNat + 1) (tg := 0) (de := de) (fb := fb) (ta := uI ta E (-1)) (la := la) (ne := ne) hH (by omega) (by omega)
        refine Ob_e gf ?_
        rw [show ((E : Int)).toNat = E from Int.toNat_natCast E] at i
        unfold F_X1_expand_b92
        refine Bd_e ?_
        rcases i with ⟨k, k1, k2, k3, rfl⟩ | ⟨k1, k2, k3, k4⟩ | ⟨k1, k2, slots', k3, rfl⟩
        · -- known
          have hk := cut_inj (hN'.1 k k1 k2).1 htn hP.2 ((hN'.1 k k1 k2).2.symm.trans k3)
          have hle : an ≤ k := by
            rcases Int.lt_or_le k an with q | q
            · exact absurd hk (a6 k k1 q)
            · exact q
          have han : an = k := by
            rcases Int.lt_or_le an k with q | q
            · exact absurd (fun p p1 p2 => (a5 p p1 p2).trans (hk p p1 p2).symm) (hN'.2.1 an k a1 q k2)
            · omega
          subst han
          have eB : F_X6_findAll_b54 P F tok w ag15 (F_X6_findAll_b22 P F tok w ag15 fm) n m f an mk' wh by_ ld = F_X6_findAll_b22 P F tok w ag15 fm n m (f + 1) mk' wh by_ (uI ld E an) := by
            unfold F_X6_findAll_b54 F_X6_findAll_b102
            rw [show 8 * m + f = (E : Int) by omega]
            refine G_i (by omega) (el_i (by omega) (Bd_i (G_i (by omega) (Bd_i (G_i (by omega) (el_i (by omega) (Bd_i rfl)))))))
          rw [eB]
          have c1 := cnt1 an
          rw [if_pos (by omega : an ≠ -1)] at c1
          exact ih fm (E + 1) (f + 1) (d + 1) n pairs ends found slots de fb _ _ _ mk' wh by_ _ (by omega) (by omega) (by omega) (by omega) (by omega) hmn ⟨hn, hH, hN', ER_old hR hEm ⟨a1, k2⟩, hw0, ht0'⟩ (by rw [cnt0]; exact hpa) (by rw [end0]; exact hen) (by omega) (by omega)
        · -- too many
          have han : an = n := by
            rcases Int.lt_or_le an n with q | q
            · exact absurd ((hN'.1 an a1 q).2.trans (cut_eq a5)) (k1 an a1 q)
            · omega
          have eB : F_X6_findAll_b54 P F tok w ag15 (F_X6_findAll_b22 P F tok w ag15 fm) n m f an mk' wh by_ ld = some (-1, mk', wh, by_, ld) := by
            unfold F_X6_findAll_b54
            exact G_i (by omega) (if_i (by omega) rfl)
          rw [eB]
          obtain ⟨fu, rfl⟩ : ∃ k, fu = k + 1 := ⟨fu - 1, by omega⟩
          obtain ⟨rn, rt, rfo, rs, rd, rb, rta, rl, rne⟩ := rf
          dsimp only at k3 k4
          subst k3
          have hrn := k4.trans k2
          show ∃ r, F_X1_expand_b4_body F need bo em tak gi (F_X1_expand_b4 F need bo em tak gi fu) m (d + 1) (f + 1) rn pairs ends 1 rfo rs rd rb rta rl rne = some r ∧ _
          have out : ∃ r, F_X1_expand_b98 F need bo em tak gi (d + 1) rn pairs ends 1 rfo rs rd rb rta rl rne = some r ∧ EXr P F m tok ag15 (some (-1, mk', wh, by_, ld)) r := by
            unfold F_X1_expand_b98
            exact Bd_e (G_e (by omega) (el_e (by omega) (so_e (Or.inl ⟨rfl, ⟨_, rfl, rfl⟩, by dsimp only; omega, by dsimp only; omega⟩))))
          unfold F_X1_expand_b4_body
          refine G_e (by omega) ?_
          by_cases q : F ≤ f + 1
          · exact two_o ⟨by omega, by omega, hF.2⟩ q out
          · exact two_n ⟨by omega, by omega, hF.2⟩ q (G_e (by omega) (el_e (by omega) out))
        · -- new
          have han : an = n := by
            rcases Int.lt_or_le an n with q | q
            · exact absurd ((hN'.1 an a1 q).2.trans (cut_eq a5)) (k1 an a1 q)
            · omega
          subst han
          have eB : F_X6_findAll_b54 P F tok w ag15 (F_X6_findAll_b22 P F tok w ag15 fm) an m f an mk' wh by_ ld = F_X6_findAll_b22 P F tok w ag15 fm (an + 1) m (f + 1) mk' (uI wh an.toNat m) (uI by_ an.toNat f) (uI ld E an) := by
            unfold F_X6_findAll_b54 F_X6_findAll_b102
            rw [show 8 * m + f = (E : Int) by omega]
            refine G_i (by omega) (el_i (by omega) (Bd_i (G_i (by omega) (Bd_i (G_i (by omega) (if_i rfl (G_i (by omega) (Bd_i (G_i (by omega) (Bd_i (Bd_i (Bd_i rfl))))))))))))
          rw [eB]
          have c1 := cnt1 an
          rw [if_pos (by omega : an ≠ -1)] at c1
          have n1 := NR_new hN hP hn.1 ⟨hm.1, hmn⟩ hf htn a4 a6
          rw [show 8 * m + f = (E : Int) by omega] at n1
          have r1 := ER_old (ER_grow hR (by omega)) hEm (⟨a1, by omega⟩ : 0 ≤ an ∧ an < an + 1)
          exact ih fm (E + 1) (f + 1) (d + 1) (an + 1) pairs ends _ slots' _ _ _ _ _ mk' _ _ _ (by omega) (by omega) (by omega) (by omega) (by omega) (by omega) ⟨by omega, k3, n1, r1, by rw [uI_ne _ _ (by omega)]; exact hw0, ht0'⟩ (by rw [cnt0]; exact hpa) (by rw [end0]; exact hen) (by omega) (by omega)
      · -- it can't
        have z8 : r8 = 0 := by
          rcases i8 with q | q
          · exact absurd (cut_can.mp q.2) hc
          · exact q.1
        have z9 : r9 = 0 := by
          rcases i9 with q | q
          · exact absurd q.2 hc
          · exact q.1
        subst z8 z9
        refine if_e rfl ?_
        have eA : F_X6_findAll_b22_body P F tok w ag15 (F_X6_findAll_b22 P F tok w ag15 fm) n m f mk wh by_ ld = F_X6_findAll_b22 P F tok w ag15 fm n m (f + 1) mk wh by_ (uI ld E (-1)) := by
          unfold F_X6_findAll_b22_body F_X6_findAll_b54 F_X6_findAll_b102
          rw [show 8 * m + f = (E : Int) by omega]
          refine G_i (by omega) (el_i c (Ob_i g9 (G_i (by omega) (if_i rfl (G_i (by omega) (el_i (by omega) (Bd_i (G_i (by omega) (Bd_i (G_i (by omega) (el_i (by omega) (Bd_i rfl))))))))))))
        rw [eA]
        unfold F_X1_expand_b92
        refine Bd_e ?_
        have c1 := cnt1 (-1)
        rw [if_neg (fun z => z rfl)] at c1
        exact ih fm (E + 1) (f + 1) d n pairs ends found slots de fb _ la ne mk wh by_ _ (by omega) (by omega) (by omega) (by omega) (by omega) hmn ⟨hn, hH, hN, ER_none hR (by omega), hw0, ht0⟩ (by rw [cnt0]; exact hpa) (by rw [end0]; exact hen) (by omega) (by omega)
/-- what the class keeps of its graph, held against the reference's answer -/
def RelG (P F : Int) (tok : Nat → Int) (n pairs ends tg : Int) (found : Nat → Int64) (slots de fb ta la ne : Nat → Int) (q : Int × (Nat → Int) × (Nat → Int) × (Nat → Int) × (Nat → Int)) : Prop :=
  (tg = 1 ∧ q.1 = -1) ∨ (tg = 0 ∧ q.1 = n ∧ St P F tok (8 * n).toNat n found slots de fb ta la ne q.2.1 q.2.2.1 q.2.2.2.1 q.2.2.2.2 ∧ pairs = cntE F q.2.2.2.2 (8 * n).toNat ∧ ends = endsE F q.2.2.2.2 n.toNat)
theorem refresh_loop {P F : Int} {w tok : Nat → Int} {now : Int64} {st : Int} {need bo em tak gi : Nat → Int64} (hp : packed F w need bo em tak gi) (hw : wOk w) (ho : wOut P w) (hP : 0 ≤ P ∧ P ≤ 6) (hF : 0 ≤ F ∧ F ≤ 8) :
    ∀ (fu fm : Nat) (m n pairs ends : Int) (found : Nat → Int64) (slots de fb ta la ne mk wh by_ ld : Nat → Int), 0 ≤ m → m ≤ n → 300 - m < fu → 300 - m < fm → St P F tok (8 * m).toNat n found slots de fb ta la ne mk wh by_ ld → pairs = cntE F ld (8 * m).toNat → ends = endsE F ld m.toNat →
      ∃ r, F_X1_refresh_b70 F now st need bo em tak gi fu m st n pairs ends 0 found slots de fb ta la ne = some r ∧ (r.1 = st ∧ ∃ q, F_X6_findAll_b15 P F tok w fm n m mk wh by_ ld = some q ∧ RelG P F tok r.2.1 r.2.2.1 r.2.2.2.1 r.2.2.2.2.1 r.2.2.2.2.2.1 r.2.2.2.2.2.2.1 r.2.2.2.2.2.2.2.1 r.2.2.2.2.2.2.2.2.1 r.2.2.2.2.2.2.2.2.2.1 r.2.2.2.2.2.2.2.2.2.2.1 r.2.2.2.2.2.2.2.2.2.2.2 q) := by
  intro fu
  induction fu with
  | zero => intro fm m n pairs ends found slots de fb ta la ne mk wh by_ ld h1 h2 h3 h4 hS; exact absurd h3 (by have := hS.1; omega)
  | succ fu ih =>
    intro fm m n pairs ends found slots de fb ta la ne mk wh by_ ld h1 h2 h3 h4 hS hpa hen
    have hn := hS.1
    obtain ⟨fm, rfl⟩ : ∃ k, fm = k + 1 := ⟨fm - 1, by omega⟩
    show ∃ r, F_X1_refresh_b70_body F now st need bo em tak gi (F_X1_refresh_b70 F now st need bo em tak gi fu) m st n pairs ends 0 found slots de fb ta la ne = some r ∧ (r.1 = st ∧ ∃ q, F_X6_findAll_b15_body P F tok w (F_X6_findAll_b15 P F tok w fm) n m mk wh by_ ld = some q ∧ _)
    unfold F_X1_refresh_b70_body
    refine G_e (by omega) ?_
    by_cases c : n ≤ m
    · obtain rfl : m = n := by omega
      have eA : F_X6_findAll_b15_body P F tok w (F_X6_findAll_b15 P F tok w fm) m m mk wh by_ ld = some (m, mk, wh, by_, ld) := by
        unfold F_X6_findAll_b15_body
        exact G_i (by omega) (if_i (by omega) rfl)
      rw [eA]
      have fin : ∃ r, some (st, m, pairs, ends, (0 : Int), found, slots, de, fb, ta, la, ne) = some r ∧ (r.1 = st ∧ ∃ q, some (m, mk, wh, by_, ld) = some q ∧ RelG P F tok r.2.1 r.2.2.1 r.2.2.2.1 r.2.2.2.2.1 r.2.2.2.2.2.1 r.2.2.2.2.2.2.1 r.2.2.2.2.2.2.2.1 r.2.2.2.2.2.2.2.2.1 r.2.2.2.2.2.2.2.2.2.1 r.2.2.2.2.2.2.2.2.2.2.1 r.2.2.2.2.2.2.2.2.2.2.2 q) :=
        so_e ⟨rfl, _, rfl, Or.inr ⟨rfl, rfl, hS, hpa, hen⟩⟩
      by_cases q : 300 ≤ m
      · exact if_e q fin
      · exact el_e q (G_e (by omega) (if_e (by omega) fin))
    · refine el_e (by omega) (G_e (by omega) (el_e c (G_e (by omega) (if_e rfl ?_))))
      obtain ⟨r, g1, g2⟩ := expand_lock (tok := tok) hp hw ho hP hF (⟨h1, by omega⟩ : 0 ≤ m ∧ m < 300) (F_X6_findAll_b15 P F tok w fm) NN NN (8 * m).toNat 0 0 n pairs ends found slots de fb ta la ne mk wh by_ ld (by omega) hF.1 (NN_gt (by omega)) (NN_gt (by omega)) (by omega) (by omega) hS hpa hen (by omega) (by omega)
      have eA : F_X6_findAll_b15_body P F tok w (F_X6_findAll_b15 P F tok w fm) n m mk wh by_ ld = F_X6_findAll_b22 P F tok w (F_X6_findAll_b15 P F tok w fm) NN n m 0 mk wh by_ ld := by
        unfold F_X6_findAll_b15_body
        exact G_i (by omega) (el_i c rfl)
      rw [eA]
      refine Ob_e (by unfold F_X1_expand; exact g1) (Bd_e ?_)
      obtain ⟨rn, rp, re, rt, rfo, rs, rd, rb, rta, rl, rne⟩ := r
      rcases g2 with ⟨k1, ⟨q, k2, k3⟩, k4, k5⟩ | ⟨k1, mk', wh', by', ld', k2, k3, k4, k5, k6⟩
      · dsimp only at k1 k4 k5
        subst k1
        rw [k2]
        have fin : ∃ r, some (st, rn, rp, re, (1 : Int), rfo, rs, rd, rb, rta, rl, rne) = some r ∧ (r.1 = st ∧ ∃ q', some q = some q' ∧ RelG P F tok r.2.1 r.2.2.1 r.2.2.2.1 r.2.2.2.2.1 r.2.2.2.2.2.1 r.2.2.2.2.2.2.1 r.2.2.2.2.2.2.2.1 r.2.2.2.2.2.2.2.2.1 r.2.2.2.2.2.2.2.2.2.1 r.2.2.2.2.2.2.2.2.2.2.1 r.2.2.2.2.2.2.2.2.2.2.2 q') :=
          so_e ⟨rfl, q, rfl, Or.inl ⟨rfl, k3⟩⟩
        obtain ⟨fu, rfl⟩ : ∃ k, fu = k + 1 := ⟨fu - 1, by omega⟩
        show ∃ r, F_X1_refresh_b70_body F now st need bo em tak gi (F_X1_refresh_b70 F now st need bo em tak gi fu) (m + 1) st rn rp re 1 rfo rs rd rb rta rl rne = some r ∧ _
        unfold F_X1_refresh_b70_body
        refine G_e (by omega) ?_
        by_cases c1 : 300 ≤ m + 1
        · exact if_e c1 fin
        · refine el_e c1 (G_e (by omega) ?_)
          by_cases c2 : rn ≤ m + 1
          · exact if_e c2 fin
          · exact el_e c2 (G_e (by omega) (el_e (by omega) fin))
      · dsimp only at k1 k2 k3 k4 k5 k6
        subst k1
        rw [k2]
        exact ih fm (m + 1) rn rp re rfo rs rd rb rta rl rne mk' wh' by' ld' (by omega) (by omega) (by omega) (by omega) k4 k5 k6
theorem fill_ok {slots : Nat → Int} : ∃ r, F_J7_fill_53178 (-1) 1024 slots = some r ∧ ∀ s : Nat, s < 1024 → r s = -1 := by
  have key : ∀ (n : Nat) (i : Int) (a : Nat → Int), 0 ≤ i → i ≤ 1024 → 1024 - i < n → (∀ s : Nat, s < i → a s = -1) → ∃ r, F_J7_fill_53178_b5 1024 n (-1) i 1024 a = some r ∧ ∀ s : Nat, s < 1024 → r s = -1 := by
    intro n
    induction n with
    | zero => intro i a h1 h2 h3; exact absurd h3 (by omega)
    | succ n ih =>
      intro i a h1 h2 h3 h4
      show ∃ r, F_J7_fill_53178_b5_body 1024 (F_J7_fill_53178_b5 1024 n) (-1) i 1024 a = some r ∧ _
      unfold F_J7_fill_53178_b5_body
      refine G_e (by omega) ?_
      by_cases c : 1024 ≤ i
      · exact if_e c (so_e (fun s hs => h4 s (by omega)))
      · refine el_e c (G_e (by omega) (Bd_e (Bd_e (ih (i + 1) _ (by omega) (by omega) (by omega) (fun s hs => ?_)))))
        by_cases q : s = i.toNat
        · rw [q, uI_same]
        · rw [uI_ne _ _ q]; exact h4 s (by omega)
  unfold F_J7_fill_53178
  exact Bd_e (key NN 0 slots (by omega) (by omega) (NN_gt (by omega)) (fun s hs => absurd hs (by omega)))
/-- the class's graph is the reference's, whatever lies in the reference's rows -/
def GR (P F : Int) (tok w : Nat → Int) (n pairs ends tg : Int) (found : Nat → Int64) (slots de fb ta la ne : Nat → Int) : Prop :=
  ∀ mk wh by_ ld : Nat → Int, ∃ q, F_X6_findAll P F tok w mk wh by_ ld = some q ∧ RelG P F tok n pairs ends tg found slots de fb ta la ne q
theorem refresh_ok {P F : Int} {w tok : Nat → Int} {st rs n pairs ends tg : Int} {need bo em tak gi found : Nat → Int64} {slots de fb ta la ne : Nat → Int} (hp : packed F w need bo em tak gi) (hw : wOk w) (ho : wOut P w) (hP : 0 ≤ P ∧ P ≤ 6) (hF : 0 ≤ F ∧ F ≤ 8) (ht : tOk P (tk tok)) (h1 : inR rs) (h2 : inR st) (hG : rs = st → GR P F tok w n pairs ends tg found slots de fb ta la ne) :
    ∃ r, F_X1_refresh F (pk (cut P (tk tok))) st need bo em tak gi rs n pairs ends tg found slots de fb ta la ne = some r ∧ (r.1 = st ∧ GR P F tok w r.2.1 r.2.2.1 r.2.2.2.1 r.2.2.2.2.1 r.2.2.2.2.2.1 r.2.2.2.2.2.2.1 r.2.2.2.2.2.2.2.1 r.2.2.2.2.2.2.2.2.1 r.2.2.2.2.2.2.2.2.2.1 r.2.2.2.2.2.2.2.2.2.2.1 r.2.2.2.2.2.2.2.2.2.2.2) := by
  unfold F_X1_refresh
  refine G_e (by omega) ?_
  by_cases c : rs = st
  · exact if_e c (so_e ⟨c, hG c⟩)
  · refine el_e c ?_
    obtain ⟨sl, g1, g2⟩ := fill_ok (slots := slots)
    refine Ob_e g1 (G_e (by omega) ?_)
    have H0 : HS 0 found sl := ⟨fun s hs => Or.inl (g2 s hs), fun k k1 k2 => absurd k2 (by omega), taken_all _ g2⟩
    obtain ⟨r8, g8, i8⟩ := indexFor_ok (x := pk (cut P (tk tok))) (e := -1) (d := 0) (depths := de) (foundBy := fb) (lastInto := la) H0 (by omega)
    refine Ob_e g8 ?_
    rcases i8 with ⟨a1, a2, -⟩ | ⟨-, a2, -⟩ | ⟨-, -, -, slots', a4, a5⟩
    · exact absurd a2 (by omega)
    · exact absurd a2 (by omega)
    · obtain ⟨ri, r8⟩ := r8
      dsimp only at a5
      subst a5
      have each : ∀ mk wh by_ ld : Nat → Int, ∃ r, F_X1_refresh_b70 F (pk (cut P (tk tok))) st need bo em tak gi NN 0 st (0 + 1) 0 0 0 (uI found (0 : Int).toNat (pk (cut P (tk tok)))) slots' (uI de (0 : Int).toNat 0) (uI fb (0 : Int).toNat (-1)) ta (uI la (0 : Int).toNat (-1)) ne = some r ∧ (r.1 = st ∧ ∃ q, F_X6_findAll P F tok w mk wh by_ ld = some q ∧ RelG P F tok r.2.1 r.2.2.1 r.2.2.2.1 r.2.2.2.2.1 r.2.2.2.2.2.1 r.2.2.2.2.2.2.1 r.2.2.2.2.2.2.2.1 r.2.2.2.2.2.2.2.2.1 r.2.2.2.2.2.2.2.2.2.1 r.2.2.2.2.2.2.2.2.2.2.1 r.2.2.2.2.2.2.2.2.2.2.2 q) := by
        intro mk wh by_ ld
        obtain ⟨m0, l1, l2, -⟩ := layNow_ok (tok := tok) (marks := mk) hP
        have hrow : tOk P (row m0 0) := fun p p1 p2 => by rw [l2 p p1 p2]; exact ht p p1 p2
        have hS : St P F tok (8 * (0 : Int)).toNat (0 + 1) (uI found (0 : Int).toNat (pk (cut P (tk tok)))) slots' (uI de (0 : Int).toNat 0) (uI fb (0 : Int).toNat (-1)) ta (uI la (0 : Int).toNat (-1)) ne m0 (uI wh (0 : Int).toNat (-1)) by_ ld := by
          refine ⟨by omega, a4, ⟨fun k k1 k2 => ?_, fun j k j1 j2 j3 => absurd j3 (by omega), fun k k1 k2 => absurd k2 (by omega), rfl, rfl, fun k k1 k2 => ?_⟩, ⟨fun e he => absurd he (by omega), fun k k1 k2 => ?_, fun e he => absurd he (by omega)⟩, rfl, l2⟩
          · obtain rfl : k = 0 := by omega
            exact ⟨hrow, (uI_same _ _ _).trans (cut_eq (fun p p1 p2 => (l2 p p1 p2).symm))⟩
          · obtain rfl : k = 0 := by omega
            rw [uI_same]; omega
          · obtain rfl : k = 0 := by omega
            rfl
        obtain ⟨r, q1, q2, q, q3, q4⟩ := refresh_loop (now := pk (cut P (tk tok))) (st := st) hp hw ho hP hF NN NN 0 (0 + 1) 0 0 _ slots' _ _ ta _ ne m0 (uI wh (0 : Int).toNat (-1)) by_ ld (by omega) (by omega) (NN_gt (by omega)) (NN_gt (by omega)) hS rfl rfl
        refine ⟨r, q1, q2, q, ?_, q4⟩
        unfold F_X6_findAll
        exact Ob_i l1 (G_i (by omega) (Bd_i q3))
      obtain ⟨r, q1, q2, -⟩ := each (fun _ => 0) (fun _ => 0) (fun _ => 0) (fun _ => 0)
      refine ⟨r, q1, q2, fun mk wh by_ ld => ?_⟩
      obtain ⟨r', p1, p2, p3⟩ := each mk wh by_ ld
      obtain rfl : r' = r := Option.some.inj (p1.symm.trans q1)
      exact p3
