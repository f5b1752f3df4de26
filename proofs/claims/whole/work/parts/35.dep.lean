/-! ===== the Model: dependencyOf ===== -/
def bi (b : Bool) : Int32 := if b = true then nI 1 else nI 0
def mB2 (μ : sn_V) (pa na pb n : Nat) : Bool := anyN (fun k => (decide (bitP (μ 1 (pb + 1)) k) && decide (bitP (μ 1 (pa + 2)) k)) && decide (μ 1 (pb + 3 + k) = nI na)) n
def mB3 (μ : sn_V) (pa pb nb n : Nat) : Bool := anyN (fun k => (decide (bitP (μ 1 (pa + 1)) k) && decide (bitP (μ 1 (pb + 2)) k)) && decide (¬ nI nb ≤ μ 1 (pa + 3 + k))) n
theorem dV_sum (x y z : Bool) : (bi x + (if y = true then nI 2 else nI 0)) + (if z = true then nI 4 else nI 0) = dV x y z := by cases x <;> cases y <;> cases z <;> decide
theorem bi_f : (nI 0 : Int32) = 0 := by decide
theorem bi_t : ¬ (nI 1 : Int32) = 0 := by decide
theorem s_M_depLoop {h : sn_H} {m c a b pa pb : Nat} {μ : sn_V} {x : Bool} {Q : Option Value → sn_H → Prop} (A : MoA h m μ) (hc : c < 2 ^ 30) (ha : a ≤ 16) (hb : b ≤ 16) (h0 : μ 1 0 = nI c) (hpa : pa + 14 < 596) (hpb : pb + 14 < 596)
    (H : Q (some (.int (dV x (mB2 μ pa (mnN c a) pb 12) (mB3 μ pa pb (mnN c b) 12)))) h) :
    ∀ (r k : Nat), k + r = 12 → wpE 122 63 [some (.ref m), some (.int (nI a)), some (.int (nI b)), some (.int (nI pa)), some (.int (nI pb)), some (.int (bi x)), some (.int (bi (mB2 μ pa (mnN c a) pb k))), some (.int (bi (mB3 μ pa pb (mnN c b) k))), some (.int (nI k))] [] h (0, 0) Q := by
  intro r
  induction r with
  | zero =>
    intro k hk
    have e : k = 12 := hk
    subst e
    rw [← dV_sum] at H
    generalize mB2 μ pa (mnN c a) pb 12 = y at H ⊢
    generalize mB3 μ pa pb (mnN c b) 12 = z at H ⊢
    have nn : ∀ {P : Prop}, ¬ nI 12 ≤ nI 12 → P := fun z => absurd (Int32.le_refl _) z
    cases y <;> cases z
    · exact r_M_dependencyOf_63 A.1.1 A.1.f1.1 A.1.f1.2 (fun _ _ _ => H) (fun _ _ q => absurd bi_f q) (fun _ q => absurd bi_f q) (fun _ q => absurd bi_f q) nn nn nn nn nn nn nn nn nn nn nn nn nn nn nn nn nn nn nn nn nn nn nn nn nn
    · exact r_M_dependencyOf_63 A.1.1 A.1.f1.1 A.1.f1.2 (fun _ _ q => absurd q bi_t) (fun _ _ _ => H) (fun _ q => absurd bi_f q) (fun _ q => absurd bi_f q) nn nn nn nn nn nn nn nn nn nn nn nn nn nn nn nn nn nn nn nn nn nn nn nn nn
    · exact r_M_dependencyOf_63 A.1.1 A.1.f1.1 A.1.f1.2 (fun _ q => absurd q bi_t) (fun _ q => absurd q bi_t) (fun _ _ _ => H) (fun _ _ q => absurd bi_f q) nn nn nn nn nn nn nn nn nn nn nn nn nn nn nn nn nn nn nn nn nn nn nn nn nn
    · exact r_M_dependencyOf_63 A.1.1 A.1.f1.1 A.1.f1.2 (fun _ q => absurd q bi_t) (fun _ q => absurd q bi_t) (fun _ _ q => absurd q bi_t) (fun _ _ _ => H) nn nn nn nn nn nn nn nn nn nn nn nn nn nn nn nn nn nn nn nn nn nn nn nn nn
  | succ r ih =>
    intro k hk
    have nb : ∀ {P : Prop}, nI 12 ≤ nI k → P := fun z => absurd z (nI_ge (by omega) (by omega))
    have G : ∀ i, i < 596 → hG h (m + 1) (nI i).toNatClampNeg = μ 1 i := fun i hi => by rw [cl (by omega)]; exact A.g 1 (by decide)
    have IH := ih (k + 1) (by omega)
    have e2 : mB2 μ pa (mnN c a) pb (k + 1) = (mB2 μ pa (mnN c a) pb k || ((decide (bitP (μ 1 (pb + 1)) k) && decide (bitP (μ 1 (pa + 2)) k)) && decide (μ 1 (pb + 3 + k) = nI (mnN c a)))) := by unfold mB2; rw [anyN]
    have e3 : mB3 μ pa pb (mnN c b) (k + 1) = (mB3 μ pa pb (mnN c b) k || ((decide (bitP (μ 1 (pa + 1)) k) && decide (bitP (μ 1 (pb + 2)) k)) && decide (¬ nI (mnN c b) ≤ μ 1 (pa + 3 + k)))) := by unfold mB3; rw [anyN]
    rw [e2, e3] at IH
    generalize mB2 μ pa (mnN c a) pb k = y at IH ⊢
    generalize mB3 μ pa pb (mnN c b) k = z at IH ⊢
    have g1 : hG h (m + 1) (nI pb + nI 1).toNatClampNeg = μ 1 (pb + 1) := by rw [nI_add]; exact G _ (by omega)
    have g2 : hG h (m + 1) (nI pa + nI 2).toNatClampNeg = μ 1 (pa + 2) := by rw [nI_add]; exact G _ (by omega)
    have g3 : hG h (m + 1) ((nI pb + nI 3) + nI k).toNatClampNeg = μ 1 (pb + 3 + k) := by rw [nI_add, nI_add]; exact G _ (by omega)
    have g4 : hG h (m + 1) (nI pa + nI 1).toNatClampNeg = μ 1 (pa + 1) := by rw [nI_add]; exact G _ (by omega)
    have g5 : hG h (m + 1) (nI pb + nI 2).toNatClampNeg = μ 1 (pb + 2) := by rw [nI_add]; exact G _ (by omega)
    have g6 : hG h (m + 1) ((nI pa + nI 3) + nI k).toNatClampNeg = μ 1 (pa + 3 + k) := by rw [nI_add, nI_add]; exact G _ (by omega)
    have i1 : vp_in (nI pb + nI 1) 596 := by rw [nI_add]; exact inb (by omega)
    have i2 : vp_in (nI pa + nI 2) 596 := by rw [nI_add]; exact inb (by omega)
    have i3 : vp_in ((nI pb + nI 3) + nI k) 596 := by rw [nI_add, nI_add]; exact inb (by omega)
    have i4 : vp_in (nI pa + nI 1) 596 := by rw [nI_add]; exact inb (by omega)
    have i5 : vp_in (nI pb + nI 2) 596 := by rw [nI_add]; exact inb (by omega)
    have i6 : vp_in ((nI pa + nI 3) + nI k) 596 := by rw [nI_add, nI_add]; exact inb (by omega)
    -- the second half: y' is known
    have fin : ∀ (y' z' : Bool), (y || ((decide (bitP (μ 1 (pb + 1)) k) && decide (bitP (μ 1 (pa + 2)) k)) && decide (μ 1 (pb + 3 + k) = nI (mnN c a)))) = y' → (z || ((decide (bitP (μ 1 (pa + 1)) k) && decide (bitP (μ 1 (pb + 2)) k)) && decide (¬ nI (mnN c b) ≤ μ 1 (pa + 3 + k)))) = z' →
        wpE 122 63 [some (.ref m), some (.int (nI a)), some (.int (nI b)), some (.int (nI pa)), some (.int (nI pb)), some (.int (bi x)), some (.int (bi y')), some (.int (bi z')), some (.int (nI k + nI 1))] [] h (0, 0) Q := by
      rintro _ _ rfl rfl
      rw [nI_s]
      exact IH
    have z0 : z = true → ∀ p : Bool, (z || p) = true := fun e p => by rw [e]; rfl
    have zb : ¬ bi z = 0 → z = true := by cases z <;> intro q <;> first | rfl | exact absurd bi_f q
    have zb0 : bi z = 0 → z = false := by cases z <;> intro q <;> first | rfl | exact absurd q bi_t
    have yb : ¬ bi y = 0 → y = true := by cases y <;> intro q <;> first | rfl | exact absurd bi_f q
    have yb0 : bi y = 0 → y = false := by cases y <;> intro q <;> first | rfl | exact absurd q bi_t
    have f1 : z = false → ¬ bitP (μ 1 (pa + 1)) k → (z || ((decide (bitP (μ 1 (pa + 1)) k) && decide (bitP (μ 1 (pb + 2)) k)) && decide (¬ nI (mnN c b) ≤ μ 1 (pa + 3 + k)))) = false := fun q q1 => by rw [q, decide_eq_false q1]; rfl
    have f2 : z = false → ¬ bitP (μ 1 (pb + 2)) k → (z || ((decide (bitP (μ 1 (pa + 1)) k) && decide (bitP (μ 1 (pb + 2)) k)) && decide (¬ nI (mnN c b) ≤ μ 1 (pa + 3 + k)))) = false := fun q q1 => by rw [q, decide_eq_false q1, Bool.and_false]; rfl
    have cmp : ∀ (y' : Bool), (y || ((decide (bitP (μ 1 (pb + 1)) k) && decide (bitP (μ 1 (pa + 2)) k)) && decide (μ 1 (pb + 3 + k) = nI (mnN c a)))) = y' → z = false → bitP (μ 1 (pa + 1)) k → bitP (μ 1 (pb + 2)) k →
        wpE 124 0 [some (.ref m), some (.int (nI b))] [] h (0, 0) (fun r hh => wpE 122 193 [some (.ref m), some (.int (nI a)), some (.int (nI b)), some (.int (nI pa)), some (.int (nI pb)), some (.int (bi x)), some (.int (bi y')), none, some (.int (nI k))] (r.toList ++ [.int (hG h (m + 1) ((nI pa + nI 3) + nI k).toNatClampNeg)]) hh (0, 0) Q) := by
      intro y' hy q q1 q2
      refine s_M_numberOf A hc hb h0 ?_
      rw [g6]
      refine r_M_dependencyOf_193 (fun w => ?_) (fun w => ?_)
      · exact fin y' false hy (by rw [q, decide_eq_false (p := ¬ nI (mnN c b) ≤ μ 1 (pa + 3 + k)) (fun n => n w), Bool.and_false]; rfl)
      · exact fin y' true hy (by rw [q, decide_eq_true q1, decide_eq_true q2, decide_eq_true w]; rfl)
    refine r_M_dependencyOf_63 A.1.1 A.1.f1.1 A.1.f1.2 nb nb nb nb
      (fun _ p q => fin true true (by rw [yb p]; rfl) (z0 (zb q) _))
      (fun _ _ _ => i4)
      (fun _ p q w => fin true false (by rw [yb p]; rfl) (f1 (zb0 q) (by rw [g4] at w; exact w)))
      (fun _ _ _ _ => i5)
      (fun _ p q _ w => fin true false (by rw [yb p]; rfl) (f2 (zb0 q) (by rw [g5] at w; exact w)))
      (fun _ _ _ _ _ => i6)
      (fun _ p q w w2 => cmp true (by rw [yb p]; rfl) (zb0 q) (by rw [g4] at w; exact w) (by rw [g5] at w2; exact w2))
      (fun _ _ => i1) ?_ (fun _ _ _ _ => i4) ?_ (fun _ _ _ _ _ => i5) ?_ (fun _ _ _ _ _ _ => i6) ?_ (fun _ _ _ => i2) ?_ (fun _ _ _ _ _ => i4) ?_ (fun _ _ _ _ _ _ => i5) ?_ (fun _ _ _ _ _ _ _ => i6) ?_ (fun _ _ _ _ => i3) ?_
    all_goals (first | rw [g1] | skip)
    · exact fun _ p u q => fin false true (by rw [yb0 p, decide_eq_false u]; rfl) (z0 (zb q) _)
    · exact fun _ p u q w => fin false false (by rw [yb0 p, decide_eq_false u]; rfl) (f1 (zb0 q) (by rw [g4] at w; exact w))
    · exact fun _ p u q _ w => fin false false (by rw [yb0 p, decide_eq_false u]; rfl) (f2 (zb0 q) (by rw [g5] at w; exact w))
    · exact fun _ p u q w w2 => cmp false (by rw [yb0 p, decide_eq_false u]; rfl) (zb0 q) (by rw [g4] at w; exact w) (by rw [g5] at w2; exact w2)
    · exact fun _ p u u2 q => fin false true (by rw [g2] at u2; rw [yb0 p, decide_eq_false (p := bitP (μ 1 (pa + 2)) k) u2, Bool.and_false]; rfl) (z0 (zb q) _)
    · exact fun _ p u u2 q w => fin false false (by rw [g2] at u2; rw [yb0 p, decide_eq_false (p := bitP (μ 1 (pa + 2)) k) u2, Bool.and_false]; rfl) (f1 (zb0 q) (by rw [g4] at w; exact w))
    · exact fun _ p u u2 q _ w => fin false false (by rw [g2] at u2; rw [yb0 p, decide_eq_false (p := bitP (μ 1 (pa + 2)) k) u2, Bool.and_false]; rfl) (f2 (zb0 q) (by rw [g5] at w; exact w))
    · exact fun _ p u u2 q w w2 => cmp false (by rw [g2] at u2; rw [yb0 p, decide_eq_false (p := bitP (μ 1 (pa + 2)) k) u2, Bool.and_false]; rfl) (zb0 q) (by rw [g4] at w; exact w) (by rw [g5] at w2; exact w2)
    · intro _ p u u2
      refine s_M_numberOf A hc ha h0 ?_
      rw [g2] at u2
      rw [g3]
      have t1 : ∀ s : Bool, (μ 1 (pb + 3 + k) = nI (mnN c a) ↔ s = true) → (y || ((decide (bitP (μ 1 (pb + 1)) k) && decide (bitP (μ 1 (pa + 2)) k)) && decide (μ 1 (pb + 3 + k) = nI (mnN c a)))) = s := by
        intro s hs
        rw [yb0 p, decide_eq_true (p := bitP (μ 1 (pb + 1)) k) u, decide_eq_true (p := bitP (μ 1 (pa + 2)) k) u2]
        cases s
        · rw [decide_eq_false (fun n => absurd (hs.mp n) (by decide))]; rfl
        · rw [decide_eq_true (hs.mpr rfl)]; rfl
      have tf : ¬ μ 1 (pb + 3 + k) = nI (mnN c a) → _ := fun n => t1 false ⟨fun q => absurd q n, fun q => absurd q (by decide)⟩
      have tt : μ 1 (pb + 3 + k) = nI (mnN c a) → _ := fun n => t1 true ⟨fun _ => rfl, fun _ => n⟩
      exact r_M_dependencyOf_127 A.1.1 A.1.f1.1 A.1.f1.2
        (fun n q => fin false true (tf n) (z0 (zb q) _))
        (fun _ _ => i4)
        (fun n q w => fin false false (tf n) (f1 (zb0 q) (by rw [g4] at w; exact w)))
        (fun _ _ _ => i5)
        (fun n q _ w => fin false false (tf n) (f2 (zb0 q) (by rw [g5] at w; exact w)))
        (fun _ _ _ _ => i6)
        (fun n q w w2 => cmp false (tf n) (zb0 q) (by rw [g4] at w; exact w) (by rw [g5] at w2; exact w2))
        (fun n q => fin true true (tt n) (z0 (zb q) _))
        (fun _ _ => i4)
        (fun n q w => fin true false (tt n) (f1 (zb0 q) (by rw [g4] at w; exact w)))
        (fun _ _ _ => i5)
        (fun n q _ w => fin true false (tt n) (f2 (zb0 q) (by rw [g5] at w; exact w)))
        (fun _ _ _ _ => i6)
        (fun n q w w2 => cmp true (tt n) (zb0 q) (by rw [g4] at w; exact w) (by rw [g5] at w2; exact w2))
/-- the dependency of two nodes of the Model -/
def mS (μ : sn_V) (c w a b : Nat) : Int32 := dV (decide (¬ (μ 1 (mpN c w a + 2) &&& μ 1 (mpN c w b + 2)) = 0) && decide (mnN c a < mnN c b)) (mB2 μ (mpN c w a) (mnN c a) (mpN c w b) 12) (mB3 μ (mpN c w a) (mpN c w b) (mnN c b) 12)
theorem mpN_lt {c w a : Nat} (hw : w < 8) : mpN c w a + 14 < 596 := by unfold mpN; split <;> omega
theorem mnN_lt {c a : Nat} (hc : c < 2 ^ 30) (ha : a ≤ 16) : mnN c a < 2 ^ 31 := by unfold mnN; split <;> omega
theorem s_M_dependencyOf {h : sn_H} {m c a b w : Nat} {μ : sn_V} {Q : Option Value → sn_H → Prop} (A : MoA h m μ) (hc : c < 2 ^ 30) (ha : a ≤ 16) (hb : b ≤ 16) (h0 : μ 1 0 = nI c) (hw : w < 8) (hwa : a = 16 → μ 0 6 = nI w) (hwb : b = 16 → μ 0 6 = nI w)
    (H : Q (some (.int (mS μ c w a b))) h) : wpE 122 0 [some (.ref m), some (.int (nI a)), some (.int (nI b)), none, none, none, none, none, none] [] h (0, 0) Q := by
  unfold mS at H
  have pa := @mpN_lt c w a hw
  have pb := @mpN_lt c w b hw
  have na := @mnN_lt c a hc ha
  have nb := @mnN_lt c b hc hb
  have G : ∀ i, i < 596 → hG h (m + 1) (nI i).toNatClampNeg = μ 1 i := fun i hi => by rw [cl (by omega)]; exact A.g 1 (by decide)
  have ga : hG h (m + 1) (nI (mpN c w a) + nI 2).toNatClampNeg = μ 1 (mpN c w a + 2) := by rw [nI_add]; exact G _ (by omega)
  have gb : hG h (m + 1) (nI (mpN c w b) + nI 2).toNatClampNeg = μ 1 (mpN c w b + 2) := by rw [nI_add]; exact G _ (by omega)
  refine r_M_dependencyOf_0 A.1.1 (s_M_placeOf A hc ha h0 hwa ?_)
  refine r_M_dependencyOf_5 A.1.1 (s_M_placeOf A hc hb h0 hwb ?_)
  refine r_M_dependencyOf_11 A.1.1 A.1.f1.1 A.1.f1.2 (by rw [nI_add]; exact inb (by omega)) (by rw [nI_add]; exact inb (by omega)) (fun z => ?_) (fun z => ?_)
  · rw [ga, gb] at z
    rw [decide_eq_false (p := ¬ (μ 1 (mpN c w a + 2) &&& μ 1 (mpN c w b + 2)) = 0) (fun n => n z), Bool.false_and] at H
    exact s_M_depLoop (x := false) A hc ha hb h0 pa pb H 12 0 (Nat.zero_add _)
  · rw [ga, gb] at z
    rw [decide_eq_true (p := ¬ (μ 1 (mpN c w a + 2) &&& μ 1 (mpN c w b + 2)) = 0) z, Bool.true_and] at H
    refine s_M_numberOf A hc ha h0 ?_
    refine r_M_dependencyOf_39 A.1.1 (s_M_numberOf A hc hb h0 ?_)
    refine r_M_dependencyOf_44 (fun y => ?_) (fun y => ?_)
    · rw [nI_leI (by omega) (by omega)] at y
      rw [decide_eq_false (by omega)] at H
      exact s_M_depLoop (x := false) A hc ha hb h0 pa pb H 12 0 (Nat.zero_add _)
    · rw [nI_leI (by omega) (by omega)] at y
      rw [decide_eq_true (by omega)] at H
      exact s_M_depLoop (x := true) A hc ha hb h0 pa pb H 12 0 (Nat.zero_add _)
