/-! ===== the Model: nextNode ===== -/
def nxN (R : Nat → Nat → Bool) (D : Nat → Nat) (a : Nat) : Nat → Nat
  | 0 => 17
  | b + 1 => if R a b = true ∧ D b ≠ 17 ∧ (nxN R D a b = 17 ∨ D b < D (nxN R D a b)) then b else nxN R D a b
theorem nxN_lt {R : Nat → Nat → Bool} {D : Nat → Nat} {a : Nat} : ∀ b, nxN R D a b < b ∨ nxN R D a b = 17 := by
  intro b
  induction b with
  | zero => exact Or.inr rfl
  | succ b ih =>
    unfold nxN
    split
    · exact Or.inl (Nat.lt_succ_self b)
    · omega
theorem nxN_s {R : Nat → Nat → Bool} {D : Nat → Nat} {a b : Nat} : nxN R D a (b + 1) = if R a b = true ∧ D b ≠ 17 ∧ (nxN R D a b = 17 ∨ D b < D (nxN R D a b)) then b else nxN R D a b := rfl
theorem nxN_D {R : Nat → Nat → Bool} {D : Nat → Nat} {a : Nat} : ∀ b, nxN R D a b ≠ 17 → R a (nxN R D a b) = true ∧ D (nxN R D a b) ≠ 17 := by
  intro b
  induction b with
  | zero => intro h; exact absurd rfl h
  | succ b ih =>
    rw [nxN_s]
    split
    · rename_i q
      exact fun _ => ⟨q.1, q.2.1⟩
    · exact ih
theorem fe_n {d : Nat} (h : d ≠ 17) : fe d = nI d := if_neg h
theorem s_M_nextNode {h : sn_H} {m a : Nat} {μ : sn_V} {R : Nat → Nat → Bool} {D : Nat → Nat} {Q : Option Value → sn_H → Prop} (A : MoA h m μ) (ha : a < 17)
    (hR : ∀ j, j < 17 → (bitP (μ 5 a) j ↔ R a j = true)) (hD : ∀ x, x < 17 → μ 6 x = fe (D x)) (hD17 : ∀ x, D x < 18)
    (H : Q (some (.int (fe (nxN R D a 17)))) h) : wpE 128 0 [some (.ref m), some (.int (nI a)), none, none, none] [] h (0, 0) Q := by
  have ca : (nI a).toNatClampNeg = a := cl (by omega)
  refine r_M_nextNode_0 ?_
  suffices ∀ (r b : Nat), b + r = 17 → wpE 128 6 [some (.ref m), some (.int (nI a)), some (.int (fe (nxN R D a b))), some (.int (nI b)), none] [] h (0, 0) Q from this 17 0 (Nat.zero_add _)
  intro r
  induction r with
  | zero =>
    intro b hb
    have e : b = 17 := hb
    subst e
    have nn : ∀ {P : Prop}, ¬ nI 17 ≤ nI 17 → P := fun z => absurd (Int32.le_refl _) z
    exact r_M_nextNode_6 A.1.1 A.1.f5.1 A.1.f5.2 A.1.f6.1 A.1.f6.2 (fun _ => H) nn nn nn nn nn nn nn nn
  | succ r ih =>
    intro b hb
    have cb : (nI b).toNatClampNeg = b := cl (by omega)
    have n18 : nxN R D a b < 18 := by rcases @nxN_lt R D a b with q | q <;> omega
    have keep : nxN R D a (b + 1) = nxN R D a b → wpE 128 6 [some (.ref m), some (.int (nI a)), some (.int (fe (nxN R D a b))), some (.int (nI b + nI 1)), none] [] h (0, 0) Q := by
      intro e
      rw [nI_s, ← e]
      exact ih (b + 1) (by omega)
    have take : nxN R D a (b + 1) = b → wpE 128 6 [some (.ref m), some (.int (nI a)), some (.int (nI b)), some (.int (nI b + nI 1)), none] [] h (0, 0) Q := by
      intro e
      have w := ih (b + 1) (by omega)
      rw [e, fe_n (by omega)] at w
      rw [nI_s]
      exact w
    have gR : ¬ ((hG h (m + 5) (nI a).toNatClampNeg >>> (nI b &&& 31)) &&& nI 1) = nI 1 → R a b = false := by
      intro z
      rw [ca, A.g 5 (by decide)] at z
      exact Bool.eq_false_iff.mpr (fun q => z ((hR b (by omega)).mpr q))
    have gT : ((hG h (m + 5) (nI a).toNatClampNeg >>> (nI b &&& 31)) &&& nI 1) = nI 1 → R a b = true := by
      intro z
      rw [ca, A.g 5 (by decide)] at z
      exact (hR b (by omega)).mp z
    have eb : hG h (m + 6) (nI b).toNatClampNeg = fe (D b) := by rw [cb, A.g 6 (by decide)]; exact hD b (by omega)
    have vn : ¬ fe (nxN R D a b) = -(nI 20006) → nxN R D a b < 17 ∧ hG h (m + 6) (fe (nxN R D a b)).toNatClampNeg = nI (D (nxN R D a b)) := by
      intro z
      rw [fe_17 _ n18] at z
      have lt : nxN R D a b < 17 := by omega
      refine ⟨lt, ?_⟩
      rw [fe_n z, cl (by omega : nxN R D a b < 2 ^ 31), A.g 6 (by decide), hD _ lt, fe_n (nxN_D b z).2]
    refine r_M_nextNode_6 A.1.1 A.1.f5.1 A.1.f5.2 A.1.f6.1 A.1.f6.2 (fun z => absurd z (nI_ge (by omega) (by omega))) (fun _ => inb (by omega)) (fun _ z => ?_) (fun _ _ => inb (by omega)) (fun _ z y => ?_) (fun _ z y u => ?_) (fun _ z y u => ?_) (fun _ z y u t => ?_) (fun _ z y u t => ?_)
    · exact keep (by rw [nxN_s, if_neg (fun q => by rw [gR z] at q; exact absurd q.1 (by decide))])
    · rw [eb, fe_17 _ (hD17 b)] at y
      exact keep (by rw [nxN_s, if_neg (fun q => q.2.1 y)])
    · rw [eb, fe_17 _ (hD17 b)] at y
      rw [fe_17 _ n18] at u
      exact take (by rw [nxN_s, if_pos ⟨gT z, y, Or.inl u⟩])
    · obtain ⟨v1, v2⟩ := vn u
      rw [fe_n (by omega)]
      exact inb v1
    · obtain ⟨v1, v2⟩ := vn u
      rw [eb, fe_17 _ (hD17 b)] at y
      have d1 := hD17 b
      have d2 := hD17 (nxN R D a b)
      rw [eb, v2, fe_n y, nI_leI (by omega) (by omega)] at t
      exact keep (by rw [nxN_s, if_neg (fun q => by rcases q.2.2 with w | w <;> omega)])
    · obtain ⟨v1, v2⟩ := vn u
      rw [eb, fe_17 _ (hD17 b)] at y
      have d1 := hD17 b
      have d2 := hD17 (nxN R D a b)
      rw [eb, v2, fe_n y, nI_leI (by omega) (by omega)] at t
      exact take (by rw [nxN_s, if_pos ⟨gT z, y, Or.inr (by omega)⟩])
