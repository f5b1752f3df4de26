/-! ===== the Model: isOverwritten ===== -/
def ovM (μ : sn_V) (w n : Nat) : Bool := anyN (fun k => decide (bitP (μ 1 (36 + 40 * w + 2)) k) && decide (¬ μ 1 (24 + k) ≤ μ 1 (36 + 40 * w))) n
theorem bi_nar (b : Bool) : narrow .boolean (.int (bi b)) = .int (bi b) := by cases b <;> decide
theorem s_M_isOverwritten {h : sn_H} {m w : Nat} {μ : sn_V} {Q : Option Value → sn_H → Prop} (A : MoA h m μ) (hw : w < 8)
    (H : Q (some (.int (bi (ovM μ w 12)))) h) : wpE 117 0 [some (.ref m), some (.int (nI w)), none, none] [] h (0, 0) Q := by
  have G : ∀ i, i < 596 → hG h (m + 1) (nI i).toNatClampNeg = μ 1 i := fun i hi => by rw [cl (by omega)]; exact A.g 1 (by decide)
  have q2 : (nI 36 + (nI 40 * nI w)) + nI 2 = nI (36 + 40 * w + 2) := by rw [pk_mul, nI_add, nI_add]
  have q0 : (nI 36 + (nI 40 * nI w)) + nI 0 = nI (36 + 40 * w) := by rw [pk_mul, nI_add, nI_add]; rfl
  refine r_M_isOverwritten_0 ?_
  suffices ∀ (r k : Nat), k + r = 12 → wpE 117 4 [some (.ref m), some (.int (nI w)), some (.int (bi (ovM μ w k))), some (.int (nI k))] [] h (0, 0) Q from this 12 0 (Nat.zero_add _)
  intro r
  induction r with
  | zero =>
    intro k hk
    have e : k = 12 := hk
    subst e
    have nn : ∀ {P : Prop}, ¬ nI 12 ≤ nI 12 → P := fun z => absurd (Int32.le_refl _) z
    exact r_M_isOverwritten_4 A.1.1 A.1.f1.1 A.1.f1.2 (fun _ => H) (fun _ => bi_nar _) nn nn nn nn nn nn nn
  | succ r ih =>
    intro k hk
    have IH := ih (k + 1) (by omega)
    have e2 : ovM μ w (k + 1) = (ovM μ w k || (decide (bitP (μ 1 (36 + 40 * w + 2)) k) && decide (¬ μ 1 (24 + k) ≤ μ 1 (36 + 40 * w)))) := by unfold ovM; rw [anyN]
    have e3 : nI 24 + nI k = nI (24 + k) := nI_add 24 k
    have nb : ∀ {P : Prop}, nI 12 ≤ nI k → P := fun z => absurd z (nI_ge (by omega) (by omega))
    rw [e2] at IH
    generalize ovM μ w k = y at IH ⊢
    have fin : ∀ y' : Bool, (y || (decide (bitP (μ 1 (36 + 40 * w + 2)) k) && decide (¬ μ 1 (24 + k) ≤ μ 1 (36 + 40 * w)))) = y' → wpE 117 4 [some (.ref m), some (.int (nI w)), some (.int (bi y')), some (.int (nI k + nI 1))] [] h (0, 0) Q := by
      rintro _ rfl
      rw [nI_s]
      exact IH
    have yb : ¬ bi y = 0 → y = true := by cases y <;> intro q <;> first | rfl | exact absurd bi_f q
    have yb0 : bi y = 0 → y = false := by cases y <;> intro q <;> first | rfl | exact absurd q bi_t
    refine r_M_isOverwritten_4 A.1.1 A.1.f1.1 A.1.f1.2 nb nb (fun _ p => fin true (by rw [yb p]; rfl)) (fun _ _ => by rw [q2]; exact inb (by omega)) (fun _ p z => ?_) (fun _ _ _ => by rw [e3]; exact inb (by omega)) (fun _ _ _ => by rw [q0]; exact inb (by omega)) (fun _ p z u => ?_) (fun _ p z u => ?_)
    · rw [q2, G _ (by omega)] at z
      exact fin false (by rw [yb0 p, decide_eq_false (p := bitP (μ 1 (36 + 40 * w + 2)) k) z]; rfl)
    · rw [e3, q0, G _ (by omega), G _ (by omega)] at u
      exact fin false (by rw [yb0 p, decide_eq_false (p := ¬ μ 1 (24 + k) ≤ μ 1 (36 + 40 * w)) (fun n => n u), Bool.and_false]; rfl)
    · rw [q2, G _ (by omega)] at z
      rw [e3, q0, G _ (by omega), G _ (by omega)] at u
      exact fin true (by rw [yb0 p, decide_eq_true (p := bitP (μ 1 (36 + 40 * w + 2)) k) z, decide_eq_true u]; rfl)
