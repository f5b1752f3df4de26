/-! ===== the law's reason ===== -/
theorem gRo_lt {σ : sn_V} {c i : Nat} (m : min 16 c = c) : ∀ x y, gRo σ c i x y = true → x < c + 1 ∧ y < c + 1 := fun x y h => by
  have := (gR_iff.mp h).1
  unfold dnA at this
  omega
theorem gOo_lt {σ : sn_V} {c i : Nat} (m : min 16 c = c) : ∀ x y, gOo σ c i x y = true → x < c + 1 ∧ y < c + 1 := fun x y h => by
  have := (gO_iff.mp h).1
  unfold dnA at this
  omega
theorem gRk_lt {σ : sn_V} {c : Nat} (m : min 16 c = c) : ∀ x y, gRk σ c x y = true → x < c ∧ y < c := fun x y h => by
  have := (gR_iff.mp h).1
  unfold dnA at this
  omega
/-- the arrays of the law -/
def W4 (h : sn_H) (z : Nat) (q cc v t : Nat → Int32) : Prop := z + 3 < hN h ∧ Ar1 h z 12 q ∧ Ar1 h (z + 1) 48 cc ∧ Ar1 h (z + 2) 64 v ∧ Ar1 h (z + 3) 28 t
theorem W4.nw {h h' : sn_H} {z : Nat} {q cc v t : Nat → Int32} (W : W4 h z q cc v t) (w : Nw h h') : W4 h' z q cc v t := by
  have l := W.1
  exact ⟨Nat.lt_of_lt_of_le l w.1, w.A W.2.1 (by omega), w.A W.2.2.1 (by omega), w.A W.2.2.2.1 (by omega), w.A W.2.2.2.2 (by omega)⟩
theorem W4.LQ {h : sn_H} {z c : Nat} {σ : sn_V} {q cc v t : Nat → Int32} (W : W4 h z q cc v t) (R : PR c σ q cc v t) : LQ h z (z + 1) (z + 3) q cc t c := ⟨W.2.1, W.2.2.1, W.2.2.2.2, R.q0, R.c15⟩
/-- the loops over pivots -/
theorem s_L_pivots {h : sn_H} {e c c1 c2 : Nat} {O : Nat → Nat → Bool} {Q : Option Value → sn_H → Prop} (hc : c ≤ 15) (hO : ∀ i j, O i j = true → i < c + 1 ∧ j < c + 1) (E : BE h e (sh O)) (H1 : pvK O (c + 1) = true → Q (some (.int (nI 3))) h) (H2 : ¬ pvK O (c + 1) = true → Q (some (.int (nI 0))) h) :
    wpE 51 109 [none, none, none, none, none, some (.int (nI (c + 1))), some (.ref e), some (.int (nI 1)), none] [] h (c1, c2) Q := by
  have inner : ∀ p, 1 ≤ p → p ≤ c + 1 → (wpE 51 109 [none, none, none, none, none, some (.int (nI (c + 1))), some (.ref e), some (.int (nI (p + 1))), none] [] h (c1, c2) Q ∨ ∃ x, (1 ≤ x ∧ x ≤ c + 1) ∧ sh O x p = true ∧ (∃ y, y < 32 ∧ sh O p y = true) ∧ (x = c + 1 ∨ p = c + 1 ∨ sh O p (c + 1) = true)) →
      ∀ m x, x + m = c + 2 → 1 ≤ x → (∀ x', 1 ≤ x' → x' < x → ¬ (sh O x' p = true ∧ (∃ y, y < 32 ∧ sh O p y = true) ∧ (x' = c + 1 ∨ p = c + 1 ∨ sh O p (c + 1) = true))) → wpE 51 119 [none, none, none, none, none, some (.int (nI (c + 1))), some (.ref e), some (.int (nI p)), some (.int (nI x))] [] h (c1, c2) Q := by
    intro p p1 p2 K m
    induction m with
    | zero =>
      intro x hx x1 hb
      have l : nI (c + 1) < nI x := nI_lt (by omega) (by omega)
      refine r_L_reason_119 E.1 (fun _ => ?_) (fun z => absurd l z) (fun z => absurd l z) (fun z => absurd l z) (fun z => absurd l z) (fun z => absurd l z) (fun z => absurd l z) (fun z => absurd l z) (fun z => absurd l z)
      rw [nI_s]
      rcases K with K | ⟨y, ⟨y1, y2⟩, y3⟩
      · exact K
      · exact absurd y3 (hb y y1 (by omega))
    | succ m ih =>
      intro x hx x1 hb
      have l : ¬ nI (c + 1) < nI x := nI_nlt (by omega) (by omega)
      have cx : (nI x).toNatClampNeg = x := cl (by omega)
      have cp : (nI p).toNatClampNeg = p := cl (by omega)
      have b1 : ((hG h e (nI x).toNatClampNeg >>> (nI p &&& 31)) &&& nI 1) = 0 ↔ ¬ sh O x p = true := by rw [cx, bit_n0, E.2 x p (by omega) (by omega)]
      have b2 : hG h e (nI p).toNatClampNeg = 0 ↔ ¬ ∃ y, y < 32 ∧ sh O p y = true := by
        rw [cp]
        constructor
        · rintro z ⟨y, hy, q⟩
          have := (E.2 p y (by omega) hy).mpr q
          rw [z] at this
          exact bitP_0 hy this
        · intro z
          apply Classical.byContradiction
          intro w
          obtain ⟨y, hy, q⟩ := n0_bit.mp w
          exact z ⟨y, hy, (E.2 p y (by omega) hy).mp q⟩
      have b3 : (((hG h e (nI p).toNatClampNeg) >>> (nI (c + 1) &&& 31)) &&& nI 1) = nI 1 ↔ sh O p (c + 1) = true := by rw [cp]; exact E.2 p (c + 1) (by omega) (by omega)
      have skip : ¬ (sh O x p = true ∧ (∃ y, y < 32 ∧ sh O p y = true) ∧ (x = c + 1 ∨ p = c + 1 ∨ sh O p (c + 1) = true)) → wpE 51 119 [none, none, none, none, none, some (.int (nI (c + 1))), some (.ref e), some (.int (nI p)), some (.int (nI x + nI 1))] [] h (c1, c2) Q := by
        intro z
        rw [nI_s]
        refine ih (x + 1) (by omega) (by omega) (fun x' a b => ?_)
        by_cases q : x' = x
        · rw [q]; exact z
        · exact hb x' a (by omega)
      have hit : sh O x p = true → (∃ y, y < 32 ∧ sh O p y = true) → (x = c + 1 ∨ p = c + 1 ∨ sh O p (c + 1) = true) → Q (some (.int (nI 3))) h := fun z1 z2 z3 => H1 ((pv_law hc hO).mpr ⟨p, x, ⟨p1, p2⟩, ⟨x1, by omega⟩, z1, z2, z3⟩)
      refine r_L_reason_119 E.1 (fun z => absurd z l) (fun _ => inb (by omega)) (fun _ z => ?_) (fun _ _ => inb (by omega)) (fun _ z1 z2 z3 => ?_) (fun _ z1 z2 _ z3 => ?_) (fun _ z1 z2 z3 z4 z5 => ?_) (fun _ z1 z2 _ _ z3 => ?_) (fun _ _ z => ?_)
      · rw [b1] at z
        exact skip (fun q => z q.1)
      · rw [b1, Classical.not_not] at z1
        rw [b2, Classical.not_not] at z2
        rw [nI_eq (by omega) (by omega)] at z3
        exact hit z1 z2 (Or.inl z3)
      · rw [b1, Classical.not_not] at z1
        rw [b2, Classical.not_not] at z2
        rw [nI_eq (by omega) (by omega)] at z3
        exact hit z1 z2 (Or.inr (Or.inl z3))
      · rw [nI_eq (by omega) (by omega)] at z3 z4
        rw [b3] at z5
        exact skip (fun q => by
          rcases q.2.2 with w | w | w
          · exact z3 w
          · exact z4 w
          · exact z5 w)
      · rw [b1, Classical.not_not] at z1
        rw [b2, Classical.not_not] at z2
        rw [b3] at z3
        exact hit z1 z2 (Or.inr (Or.inr z3))
      · rw [b2] at z
        exact skip (fun q => z q.2.1)
  suffices ∀ m p, p + m = c + 2 → 1 ≤ p → (∀ p', 1 ≤ p' → p' < p → ¬ ∃ x, (1 ≤ x ∧ x ≤ c + 1) ∧ sh O x p' = true ∧ (∃ y, y < 32 ∧ sh O p' y = true) ∧ (x = c + 1 ∨ p' = c + 1 ∨ sh O p' (c + 1) = true)) →
      wpE 51 109 [none, none, none, none, none, some (.int (nI (c + 1))), some (.ref e), some (.int (nI p)), none] [] h (c1, c2) Q from this (c + 1) 1 (by omega) (Nat.le_refl 1) (fun p' a b => by omega)
  intro m
  induction m with
  | zero =>
    intro p hp p1 hb
    have l : nI (c + 1) < nI p := nI_lt (by omega) (by omega)
    refine r_L_reason_109 (fun _ => H2 (fun z => ?_)) (fun z => absurd l z)
    obtain ⟨p', x, ⟨a1, a2⟩, b, d⟩ := (pv_law hc hO).mp z
    exact hb p' a1 (by omega) ⟨x, b, d⟩
  | succ m ih =>
    intro p hp p1 hb
    refine r_L_reason_109 (fun z => absurd z (nI_nlt (by omega) (by omega))) (fun _ => ?_)
    refine inner p p1 (by omega) ?_ (c + 1) 1 (by omega) (Nat.le_refl 1) (fun x' a b => by omega)
    by_cases q : ∃ x, (1 ≤ x ∧ x ≤ c + 1) ∧ sh O x p = true ∧ (∃ y, y < 32 ∧ sh O p y = true) ∧ (x = c + 1 ∨ p = c + 1 ∨ sh O p (c + 1) = true)
    · exact Or.inr q
    · refine Or.inl (ih (p + 1) (by omega) (by omega) (fun p' a b => ?_))
      by_cases e : p' = p
      · rw [e]; exact q
      · exact hb p' a (by omega)
theorem s_L_reason {h : sn_H} {z c i p : Nat} {σ : sn_V} {q cc v t : Nat → Int32} {Q : Option Value → sn_H → Prop} (R : PR c σ q cc v t) (W : W4 h z q cc v t) (hi : i < 4) (ho : bitP (σ 0 3) i) (hp : p < 3)
    (H : ∀ h', Nw h h' → Q (some (.int (nI (wyC σ c i p)))) h') :
    wpE 51 0 [some (.int (nI i)), some (.int (nI p)), some (.ref z), some (.ref (z + 1)), some (.ref (z + 3)), none, none, none, none] [] h (0, 0) Q := by
  have c15 := R.c15
  have m16 := R.m16
  have wl := W.1
  have A := W.LQ R
  have S : SL c (c + 1) (nI i) t (fun w => t (3 * i + w)) := Or.inr ⟨rfl, i, hi, rfl, fun _ _ => rfl⟩
  have hsp := R.hso hi ho (tt := fun w => t (3 * i + w)) (fun _ _ => rfl)
  obtain ⟨eR, eO⟩ := R.go hi ho (tt := fun w => t (3 * i + w)) (fun _ _ => rfl)
  have ov := R.ov hi ho
  unfold wyC at H
  rw [m16] at H
  have e2 : hG h (z + 3) (nI 3 * nI i + nI 2).toNatClampNeg = t (3 * i + 2) := by rw [pk_mul, nI_add, cl (by omega), A.2.2.1.2]
  have e0 : hG h (z + 3) (nI 3 * nI i).toNatClampNeg = t (3 * i) := by rw [pk_mul, cl (by omega), A.2.2.1.2]
  refine r_L_reason_0 ?_
  -- behind the first loop
  have g88 : ovC σ i = false → ∀ h' c1 c2, Nw h h' → c1 ≤ 2 → c2 ≤ 36 → (0 < p → ¬ 0 < rgQ (gRo σ c i) (c + 1)) → wpE 51 88 [some (.int (nI i)), some (.int (nI p)), some (.ref z), some (.ref (z + 1)), some (.ref (z + 3)), some (.int (nI (c + 1))), none, none, none] [] h' (c1, c2) Q := by
    intro o h' c1 c2 w l1 l2 nr
    have H := H
    rw [o, if_neg (by decide)] at H
    refine r_L_reason_88 (fun _ => by omega) (fun _ => by omega) (fun y => ?_) (fun y => ?_)
    · rw [nI_leI (by omega) (by omega)] at y
      rw [if_neg (by omega), if_neg (nr (by omega)), if_neg (by omega)] at H
      have A' := w.LQ A (by omega) (by omega) (by omega)
      have l := w.1
      refine s_L_behind A' S hsp (by omega) (by omega) (by omega) (fun h2 w2 wn2 B => ?_)
      rw [eO] at B
      refine r_L_reason_104 (s_L_pivots c15 (gOo_lt m16) B (fun y => ?_) (fun y => ?_))
      · have := H h2 (w.tr w2)
        rw [if_pos y] at this
        exact this
      · have := H h2 (w.tr w2)
        rw [if_neg y] at this
        exact this
    · rw [nI_leI (by omega) (by omega)] at y
      have := H h' w
      by_cases p1 : p < 1
      · rw [if_pos p1] at this; exact this
      · rw [if_neg p1, if_neg (nr (by omega)), if_pos (by omega)] at this; exact this
  have g52 : ovC σ i = false → wpE 51 52 [some (.int (nI i)), some (.int (nI p)), some (.ref z), some (.ref (z + 1)), some (.ref (z + 3)), none, none, none, none] [] h (0, 0) Q := by
    intro o
    refine r_L_reason_52 A.1.1 (inb (by omega)) (fun y => ?_) (fun _ => by omega) (fun _ => by omega) (fun y => ?_)
    · rw [nI_le0 (by omega)] at y
      rw [A.g0, nI_s]
      exact g88 o h 0 0 (Nw.rf h) (by omega) (by omega) (fun z => by omega)
    · rw [nI_le0 (by omega)] at y
      rw [A.g0, nI_s]
      refine s_L_behind A S hsp (by omega) (by omega) (by omega) (fun h1 w1 wn1 B => ?_)
      rw [eR] at B
      refine r_L_reason_75 (by omega) (by omega) ?_
      have l := w1.1
      refine s_L_steps B ⟨by omega, by omega⟩ wn1 (fun h2 D w2 wn2 Ad st => ?_)
      have ed' : hG h2 (hN h1) (nI (c + 1)).toNatClampNeg = nI (D (c + 1)) := by rw [cl (by omega), Ad.2 _ (by omega)]
      obtain ⟨s1, s2⟩ := st_rgQ c15 (gRo_lt m16) gR_irr st
      refine r_L_reason_78 Ad.1 (inb (by omega)) (fun y => ?_) (fun y => ?_)
      · refine g88 o h2 _ _ (w1.tr w2) (by omega) (by omega) (fun _ r => ?_)
        rw [ed', s1, if_neg (by omega), nI_leI (by omega) (by omega)] at y
        omega
      · have hh := H h2 (w1.tr w2)
        rw [ed', s1] at y
        have r : 0 < rgQ (gRo σ c i) (c + 1) := by
          rcases Nat.eq_zero_or_pos (rgQ (gRo σ c i) (c + 1)) with q0 | q0
          · rw [if_pos q0] at y; exact absurd (Int32.le_refl _) y
          · exact q0
        rw [o, if_neg (by decide), if_neg (by omega), if_pos r] at hh
        exact hh
  suffices ∀ m k, k + m = 4 → anyN (fun k => decide (bitP (t (3 * i + 2)) k) && decide (t (3 * i) < nI (verN cc k c))) k = false → wpE 51 3 [some (.int (nI i)), some (.int (nI p)), some (.ref z), some (.ref (z + 1)), some (.ref (z + 3)), some (.int (nI k)), none, none, none] [] h (0, 0) Q from this 4 0 rfl rfl
  intro m
  induction m with
  | zero =>
    intro k hk a
    have e : k = 4 := hk
    subst e
    refine r_L_reason_3 A.2.2.1.1 A.1.1 (fun _ => g52 (ov.trans a)) (fun y => absurd (Int32.le_refl _) y) (fun y => absurd (Int32.le_refl _) y) (fun y => absurd (Int32.le_refl _) y) (fun y => absurd (Int32.le_refl _) y) (fun y => absurd (Int32.le_refl _) y) (fun y => absurd (Int32.le_refl _) y)
  | succ m ih =>
    intro k hk a
    have st : anyN (fun k => decide (bitP (t (3 * i + 2)) k) && decide (t (3 * i) < nI (verN cc k c))) (k + 1) = (anyN (fun k => decide (bitP (t (3 * i + 2)) k) && decide (t (3 * i) < nI (verN cc k c))) k || (decide (bitP (t (3 * i + 2)) k) && decide (t (3 * i) < nI (verN cc k c)))) := rfl
    rw [a, Bool.false_or] at st
    have a3 := A.2.2.1
    refine r_L_reason_3 A.2.2.1.1 A.1.1 (fun y => absurd y (nI_ge (by omega) (by omega))) (fun _ => by rw [pk_mul, nI_add]; exact inb (by omega)) (fun _ y => ?_) (fun _ _ => inb (by omega)) (fun _ _ => by omega) (fun _ _ => by omega) (fun _ y => ?_)
    · rw [e2] at y
      rw [nI_s]
      exact ih (k + 1) (by omega) (by rw [st, decide_eq_false y, Bool.false_and])
    · rw [e2] at y
      rw [A.g0]
      refine s_L_version A.2.1 c15 ?_
      refine r_L_reason_35 A.2.2.1.1 (by rw [pk_mul]; exact inb (by omega)) (fun w => ?_) (fun w => ?_)
      · rw [e0] at w
        rw [nI_s]
        exact ih (k + 1) (by omega) (by rw [st, decide_eq_false (p := t (3 * i) < nI (verN cc k c)) (Int32.not_lt.mpr w), Bool.and_false])
      · rw [e0] at w
        have w := Int32.not_le.mp w
        have o : ovC σ i = true := by
          rw [ov]
          exact anyN_t.mpr ⟨k, by omega, by rw [decide_eq_true y, decide_eq_true w]; rfl⟩
        have hh := H h (Nw.rf h)
        rw [o, if_pos rfl] at hh
        exact hh
