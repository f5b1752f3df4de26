/-! ===== the Model: findFar, the whole ===== -/
theorem s_M_findFar {h : sn_H} {m l : Nat} {μ0 : sn_V} {R : Nat → Nat → Bool} {Q : Option Value → sn_H → Prop} (S : MoS h m) (hl : l < 17)
    (hR : ∀ a j, a < 17 → j < 17 → (bitP (μ0 5 a) j ↔ R a j = true))
    (H : ∀ μ, (∀ j k, j ≠ 6 → μ j k = μ0 j k) → (∀ x, x < 17 → μ 6 x = fe (dst R 17 l 16 x)) → Q none (mpt h m μ)) :
    wpE 127 0 [some (.ref m), some (.int (nI l)), none, none, none] [] (mpt h m μ0) (0, 0) Q := by
  have outer : ∀ (r s : Nat) (μ : sn_V), s + r = 16 → (∀ j k, j ≠ 6 → μ j k = μ0 j k) → (∀ x, x < 17 → μ 6 x = fe (dst R 17 l s x)) →
      wpE 127 34 [some (.ref m), none, some (.int (nI (s + 1))), none, none] [] (mpt h m μ) (0, 0) Q := by
    intro r
    induction r with
    | zero =>
      intro s μ hs hμ h6
      have e : s = 16 := hs
      subst e
      exact r_M_findFar_34 (fun _ => H μ hμ h6) (fun z => absurd (Int32.le_refl _) z)
    | succ r ih =>
      intro s μ hs hμ h6
      refine r_M_findFar_34 (fun z => absurd z (nI_ge (by omega) (by omega))) (fun _ => ?_)
      suffices ∀ (t a : Nat) (μ : sn_V), a + t = 17 → (∀ j k, j ≠ 6 → μ j k = μ0 j k) → (∀ x, x < 17 → μ 6 x = fe (dst R 17 l (if x < a then s + 1 else s) x)) → wpE 127 42 [some (.ref m), none, some (.int (nI (s + 1))), some (.int (nI a)), none] [] (mpt h m μ) (0, 0) Q from
        this 17 0 μ (Nat.zero_add _) hμ (fun x hx => by rw [if_neg (Nat.not_lt_zero x)]; exact h6 x hx)
      intro t
      induction t with
      | zero =>
        intro a μ ha hμ h6
        have e : a = 17 := ha
        subst e
        refine r_M_findFar_42 (fun _ => ?_) (fun z => absurd (Int32.le_refl _) z)
        rw [nI_s]
        exact ih (s + 1) μ (by omega) hμ (fun x hx => by have := h6 x hx; rw [if_pos hx] at this; exact this)
      | succ t iht =>
        intro a μ ha hμ h6
        refine r_M_findFar_42 (fun z => absurd z (nI_ge (by omega) (by omega))) (fun _ => ?_)
        refine s_M_farPass (R := R) (μ0 := μ0) S (by omega) hR a (by omega) (fun μ' g1 g2 => iht (a + 1) μ' (by omega) g1 g2) 17 0 μ (Nat.zero_add _) hμ (fun x hx => ?_)
        rw [h6 x hx]
        by_cases q : x = a
        · rw [if_pos q, if_neg (by omega), pvN_0, q]
        · rw [if_neg q]
  refine r_M_findFar_0 ?_
  suffices ∀ (r i : Nat) (μ : sn_V), i + r = 17 → (∀ j k, j ≠ 6 → μ j k = μ0 j k) → (∀ x, x < i → μ 6 x = fe (dst R 17 l 0 x)) → wpE 127 2 [some (.ref m), some (.int (nI l)), some (.int (nI i)), none, none] [] (mpt h m μ) (0, 0) Q from
    this 17 0 μ0 (Nat.zero_add _) (fun _ _ _ => rfl) (fun x hx => absurd hx (Nat.not_lt_zero x))
  intro r
  induction r with
  | zero =>
    intro i μ hi hμ h6
    have e : i = 17 := hi
    subst e
    exact r_M_findFar_2 S.1 S.f6.1 S.f6.2 (fun _ => outer 16 0 μ (Nat.zero_add _) hμ h6) (fun z => absurd (Int32.le_refl _) z) (fun z => absurd (Int32.le_refl _) z) (fun z => absurd (Int32.le_refl _) z) (fun z => absurd (Int32.le_refl _) z)
  | succ r ih =>
    intro i μ hi hμ h6
    have go : ∀ v : Int32, v = fe (dst R 17 l 0 i) → wpE 127 2 [some (.ref m), some (.int (nI l)), some (.int (nI i + nI 1)), none, none] [] (mpt h m (up μ 6 i v)) (0, 0) Q := by
      rintro _ rfl
      rw [nI_s]
      refine ih (i + 1) _ (by omega) (fun j k hj => by rw [up_n (by omega)]; exact hμ j k hj) (fun x hx => ?_)
      by_cases q : x = i
      · rw [q, up_s]
      · rw [up_n (by omega)]; exact h6 x (by omega)
    refine r_M_findFar_2 S.1 S.f6.1 S.f6.2 (fun z => absurd z (nI_ge (by omega) (by omega))) (fun _ _ => inb (by omega)) (fun _ z => ?_) (fun _ _ => inb (by omega)) (fun _ z => ?_)
    · rw [cl (by omega : i < 2 ^ 31), mpt_set (by decide)]
      have q : ¬ i = l := fun q => z (by rw [q])
      have e : dst R 17 l 0 i = 17 := by unfold dst; exact if_neg q
      exact go _ (by rw [e]; rfl)
    · rw [cl (by omega : i < 2 ^ 31), mpt_set (by decide)]
      have q : i = l := (nI_eq (by omega) (by omega)).mp z
      have e : dst R 17 l 0 i = 0 := by unfold dst; exact if_pos q
      exact go _ (by rw [e]; rfl)
