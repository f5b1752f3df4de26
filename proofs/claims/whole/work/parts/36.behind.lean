/-! ===== the Model: findBehind ===== -/
/-- the Model's relation: b comes behind a by a dependency with some of the parts told -/
def mR (μ : sn_V) (c w : Nat) (own : Bool) (pt : Int32) (a b : Nat) : Bool := ((decide (¬ a = b) && mNd c own a) && mNd c own b) && decide (¬ (mS μ c w a b &&& pt) = 0)
theorem mS_c {μ μ' : sn_V} {c w a b : Nat} (e : μ' 1 = μ 1) : mS μ' c w a b = mS μ c w a b := by unfold mS mB2 mB3; rw [e]
theorem bitQ (b : Bool) : (if b = true then nI 1 else nI 0) = bi b := rfl
theorem s_M_findBehind {h : sn_H} {m c w : Nat} {own : Bool} {pt : Int32} {μ0 : sn_V} {Q : Option Value → sn_H → Prop} (S : MoS h m) (hc : c < 2 ^ 30) (h0 : μ0 1 0 = nI c) (hw : w < 8) (ho : own = true ↔ ¬ μ0 0 6 = -(nI 20006)) (how : own = true → μ0 0 6 = nI w)
    (H : ∀ μ, (∀ j k, j ≠ 5 → μ j k = μ0 j k) → (∀ a j, a < 17 → j < 32 → (bitP (μ 5 a) j ↔ j < 17 ∧ mR μ0 c w own pt a j = true)) → Q none (mpt h m μ)) :
    wpE 119 0 [some (.ref m), some (.int pt), none, none] [] (mpt h m μ0) (0, 0) Q := by
  have inner : ∀ (a : Nat), a < 17 → (∀ μ, (∀ j k, j ≠ 5 → μ j k = μ0 j k) → (∀ x j, x < a + 1 → j < 32 → (bitP (μ 5 x) j ↔ j < 17 ∧ mR μ0 c w own pt x j = true)) → wpE 119 2 [some (.ref m), some (.int pt), some (.int (nI (a + 1))), none] [] (mpt h m μ) (0, 0) Q) →
      ∀ (r b : Nat) (μ : sn_V), b + r = 17 → (∀ j k, j ≠ 5 → μ j k = μ0 j k) → (∀ x j, x < a → j < 32 → (bitP (μ 5 x) j ↔ j < 17 ∧ mR μ0 c w own pt x j = true)) → (∀ j, j < 32 → (bitP (μ 5 a) j ↔ j < b ∧ mR μ0 c w own pt a j = true)) →
      wpE 119 17 [some (.ref m), some (.int pt), some (.int (nI a)), some (.int (nI b))] [] (mpt h m μ) (0, 0) Q := by
    intro a ha K r
    induction r with
    | zero =>
      intro b μ hb hμ h1 h2
      have e : b = 17 := hb
      subst e
      refine r_M_findBehind_17 S.1 (fun _ => ?_) (fun z => absurd (Int32.le_refl _) z) (fun z => absurd (Int32.le_refl _) z)
      rw [nI_s]
      refine K μ hμ (fun x j hx hj => ?_)
      by_cases q : x = a
      · rw [q]; exact h2 j hj
      · exact h1 x j (by omega) hj
    | succ r ih =>
      intro b μ hb hμ h1 h2
      have A : MoA (mpt h m μ) m μ := mpt_A S
      have e0 : μ 1 0 = nI c := (hμ 1 0 (by omega)).trans h0
      have e6 : μ 0 6 = μ0 0 6 := hμ 0 6 (by omega)
      have ho' : own = true ↔ ¬ μ 0 6 = -(nI 20006) := by rw [e6]; exact ho
      have ca : (nI a).toNatClampNeg = a := cl (by omega)
      have skip : mR μ0 c w own pt a b = false → wpE 119 17 [some (.ref m), some (.int pt), some (.int (nI a)), some (.int (nI b + nI 1))] [] (mpt h m μ) (0, 0) Q := by
        intro q
        rw [nI_s]
        refine ih (b + 1) μ (by omega) hμ h1 (fun j hj => ?_)
        rw [h2 j hj]
        constructor
        · exact fun z => ⟨by omega, z.2⟩
        · rintro ⟨z1, z2⟩
          refine ⟨?_, z2⟩
          by_cases y : j = b
          · rw [y, q] at z2; exact absurd z2 (by decide)
          · omega
      refine r_M_findBehind_17 S.1 (fun z => absurd z (nI_ge (by omega) (by omega))) (fun _ z => ?_) (fun _ z => ?_)
      · have q : a = b := (nI_eq (by omega) (by omega)).mp z
        exact skip (by unfold mR; rw [decide_eq_false (p := ¬ a = b) (fun n => n q)]; rfl)
      · have nab : ¬ a = b := fun q => z (by rw [q])
        refine s_M_isNode A hc (by omega) e0 ho' ?_
        rw [bitQ]
        cases na : mNd c own a with
        | false =>
          refine r_M_findBehind_33 S.1 (fun _ => ?_) (fun y => absurd bi_f y)
          exact skip (by unfold mR; rw [na, Bool.and_false]; rfl)
        | true =>
          refine r_M_findBehind_33 S.1 (fun y => absurd y bi_t) (fun _ => ?_)
          refine s_M_isNode A hc (by omega) e0 ho' ?_
          rw [bitQ]
          cases nb : mNd c own b with
          | false =>
            refine r_M_findBehind_41 S.1 (fun _ => ?_) (fun y => absurd bi_f y)
            exact skip (by unfold mR; rw [nb, Bool.and_false]; rfl)
          | true =>
            refine r_M_findBehind_41 S.1 (fun y => absurd y bi_t) (fun _ => ?_)
            have own_of : ∀ {x : Nat}, mNd c own x = true → x = 16 → μ 0 6 = nI w := by
              intro x q q2
              unfold mNd at q
              rw [if_pos q2] at q
              rw [e6]
              exact how q
            refine s_M_dependencyOf (w := w) A hc (by omega) (by omega) e0 hw (own_of na) (own_of nb) ?_
            have es : mS μ c w a b = mS μ0 c w a b := mS_c (funext fun k => hμ 1 k (by omega))
            rw [es]
            have rr : mR μ0 c w own pt a b = decide (¬ (mS μ0 c w a b &&& pt) = 0) := by unfold mR; rw [na, nb, decide_eq_true nab]; rfl
            refine r_M_findBehind_50 S.1 S.f5.1 S.f5.2 (fun y => ?_) (fun _ => inb (by omega)) (fun y => ?_)
            · exact skip (by rw [rr]; exact decide_eq_false (fun n => n y))
            · have rt : mR μ0 c w own pt a b = true := by rw [rr]; exact decide_eq_true y
              rw [ca, mpt_get (by decide), mpt_set (by decide), nI_s]
              refine ih (b + 1) _ (by omega) (fun j k hj => by rw [up_n (by omega)]; exact hμ j k hj) (fun x j hx hj => by rw [up_n (by omega)]; exact h1 x j hx hj) (fun j hj => ?_)
              rw [up_s, bitP_put (by omega) hj, h2 j hj]
              constructor
              · rintro (q | q)
                · exact ⟨by omega, q.2⟩
                · rw [q]; exact ⟨by omega, rt⟩
              · rintro ⟨q1, q2⟩
                by_cases y2 : j = b
                · exact Or.inr y2
                · exact Or.inl ⟨by omega, q2⟩
  refine r_M_findBehind_0 ?_
  suffices ∀ (r a : Nat) (μ : sn_V), a + r = 17 → (∀ j k, j ≠ 5 → μ j k = μ0 j k) → (∀ x j, x < a → j < 32 → (bitP (μ 5 x) j ↔ j < 17 ∧ mR μ0 c w own pt x j = true)) → wpE 119 2 [some (.ref m), some (.int pt), some (.int (nI a)), none] [] (mpt h m μ) (0, 0) Q from
    this 17 0 μ0 (Nat.zero_add _) (fun _ _ _ => rfl) (fun x j hx => absurd hx (Nat.not_lt_zero x))
  intro r
  induction r with
  | zero =>
    intro a μ ha hμ h1
    have e : a = 17 := ha
    subst e
    exact r_M_findBehind_2 S.1 S.f5.1 S.f5.2 (fun _ => H μ hμ h1) (fun z => absurd (Int32.le_refl _) z) (fun z => absurd (Int32.le_refl _) z)
  | succ r ih =>
    intro a μ ha hμ h1
    refine r_M_findBehind_2 S.1 S.f5.1 S.f5.2 (fun z => absurd z (nI_ge (by omega) (by omega))) (fun _ => inb (by omega)) (fun _ => ?_)
    rw [cl (by omega : a < 2 ^ 31), mpt_set (by decide)]
    refine inner a (by omega) (fun μ' g1 g2 => ih (a + 1) μ' (by omega) g1 g2) 17 0 _ (Nat.zero_add _) (fun j k hj => by rw [up_n (by omega)]; exact hμ j k hj) (fun x j hx hj => by rw [up_n (by omega)]; exact h1 x j hx hj) (fun j hj => ?_)
    rw [up_s]
    exact ⟨fun z => absurd z (bitP_n0 hj), fun z => absurd z.1 (Nat.not_lt_zero j)⟩
