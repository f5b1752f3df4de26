/-! ===== the Model: copies, record, undo ===== -/
theorem cpV_0 {σ : sn_V} {a s d t : Nat} : cpV σ a s d t 0 = σ := by
  funext j k
  unfold cpV
  rw [if_neg (by omega)]
theorem cpV_s {σ : sn_V} {a s d t n : Nat} (h : a ≠ d) : up (cpV σ a s d t n) d (t + n) (cpV σ a s d t n a (s + n)) = cpV σ a s d t (n + 1) := by
  funext j k
  unfold up cpV
  by_cases e : j = d
  · subst e
    rw [if_neg (c := a = j ∧ _) (fun z => h z.1)]
    by_cases q : k = t + n
    · subst q
      rw [if_pos ⟨rfl, rfl⟩, if_pos ⟨rfl, by omega, by omega⟩, Nat.add_sub_cancel_left]
    · rw [if_neg (fun z => q z.2)]
      by_cases q2 : t ≤ k ∧ k < t + n
      · rw [if_pos ⟨rfl, q2.1, q2.2⟩, if_pos ⟨rfl, q2.1, by omega⟩]
      · rw [if_neg (fun z => q2 z.2), if_neg (fun z => q2 ⟨z.2.1, by omega⟩)]
  · rw [if_neg (fun z => e z.1), if_neg (fun z => e z.1), if_neg (fun z => e z.1)]
theorem s_M_copies {h : sn_H} {m x y f t nx ny : Nat} {μ : sn_V} {Q : Option Value → sn_H → Prop} (hx : x ≤ 7) (hy : y ≤ 7) (hxy : x ≠ y) (lx : hK h (m + x) = (1, 0, nx)) (ly : hK h (m + y) = (1, 0, ny)) (bx : f + 596 ≤ nx) (by' : t + 596 ≤ ny) (hnx : nx < 65536) (hny : ny < 65536)
    (H : Q none (mpt h m (cpV μ x f y t 596))) : wpE 101 0 [some (.ref (m + x)), some (.int (nI f)), some (.ref (m + y)), some (.int (nI t)), none] [] (mpt h m μ) (0, 0) Q := by
  refine r_M_copies_0 ?_
  suffices ∀ (r k : Nat), k + r = 596 → wpE 101 3 [some (.ref (m + x)), some (.int (nI f)), some (.ref (m + y)), some (.int (nI t)), some (.int (nI k))] [] (mpt h m (cpV μ x f y t k)) (0, 0) Q from by
    have := this 596 0 (Nat.zero_add _)
    rw [cpV_0] at this
    exact this
  intro r
  induction r with
  | zero =>
    intro k hk
    have e : k = 596 := hk
    rw [e]
    exact r_M_copies_3 lx ly (fun _ => H) (fun z => absurd (Int32.le_refl _) z) (fun z => absurd (Int32.le_refl _) z) (fun z => absurd (Int32.le_refl _) z)
  | succ r ih =>
    intro k hk
    refine r_M_copies_3 lx ly (fun z => absurd z (nI_ge (by omega) (by omega))) (fun _ => by rw [nI_add]; exact inb (by omega)) (fun _ => by rw [nI_add]; exact inb (by omega)) (fun _ => ?_)
    rw [nI_add f k, nI_add t k, cl (by omega : f + k < 2 ^ 31), cl (by omega : t + k < 2 ^ 31), mpt_get hx, mpt_set hy, cpV_s hxy, nI_s]
    exact ih (k + 1) (by omega)
theorem s_M_record {h : sn_H} {m s : Nat} {μ : sn_V} {Q : Option Value → sn_H → Prop} (S : MoS h m) (hs : s ≤ 6) (h3 : μ 0 3 = nI s)
    (H : ∀ μ', (∀ j k, j ≠ 3 → ¬ (j = 0 ∧ k = 3) → μ' j k = μ j k) → μ' 0 3 = nI (min 6 (s + 1)) →
      (∀ i, i < min 6 (s + 1) → ∀ j, j < 596 → μ' 3 (596 * i + j) = (if s < 6 then (if i = s then μ 1 j else μ 3 (596 * i + j)) else (if i = 5 then μ 1 j else μ 3 (596 * (i + 1) + j)))) → Q none (mpt h m μ')) :
    wpE 100 0 [some (.ref m), none] [] (mpt h m μ) (0, 0) Q := by
  have e3 : hG (mpt h m μ) m 3 = nI s := by rw [mpt_get0]; exact h3
  refine r_M_record_0 S.1 S.f1.1 S.f3.1 (fun z => ?_) (fun z => ?_)
  · rw [e3] at z ⊢
    have s6 : s < 6 := by
      rcases Nat.lt_or_ge s 6 with q | q
      · exact q
      · exact absurd (congrArg nI (by omega : s = 6)) z
    rw [pk_mul]
    refine s_M_copies (x := 1) (y := 3) (by decide) (by decide) (by decide) S.f1.2 S.f3.2 (by omega) (by omega) (by decide) (by decide) ?_
    refine r_M_record_70 S.1 ?_
    rw [mpt_set0, mpt_get0]
    have c3 : cpV μ 1 0 3 (s * 596) 596 0 3 = nI s := by unfold cpV; rw [if_neg (by omega)]; exact h3
    rw [c3, nI_s]
    refine H _ (fun j k hj hjk => ?_) ?_ (fun i hi j hj => ?_)
    · rw [up_n hjk]; unfold cpV; rw [if_neg (fun z => hj z.1)]
    · rw [up_s, Nat.min_eq_right (by omega)]
    · rw [up_n (by omega), if_pos s6]
      unfold cpV
      by_cases q : i = s
      · rw [if_pos q, if_pos ⟨rfl, by omega, by omega⟩]
        exact congrArg (μ 1) (by omega)
      · rw [if_neg q, if_neg (by omega)]
  · rw [e3] at z
    have s6 : s = 6 := (nI_eq (by omega) (by omega)).mp z
    subst s6
    suffices ∀ (r k : Nat) (μ1 : sn_V), k + r = 2980 → (∀ j k, j ≠ 3 → μ1 j k = μ j k) → (∀ j, j < k → μ1 3 j = μ 3 (j + 596)) → (∀ j, k ≤ j → μ1 3 j = μ 3 j) → wpE 100 11 [some (.ref m), some (.int (nI k))] [] (mpt h m μ1) (0, 0) Q from
      this 2980 0 μ (Nat.zero_add _) (fun _ _ _ => rfl) (fun j hj => absurd hj (Nat.not_lt_zero j)) (fun _ _ => rfl)
    intro r
    induction r with
    | zero =>
      intro k μ1 hk g0 g1 g2
      have e : k = 2980 := hk
      subst e
      refine r_M_record_11 S.1 S.f1.1 S.f3.1 S.f3.2 (fun _ => ?_) (fun z => absurd (Int32.le_refl _) z) (fun z => absurd (Int32.le_refl _) z) (fun z => absurd (Int32.le_refl _) z)
      have e5 : μ1 0 3 - nI 1 = nI 5 := by rw [g0 0 3 (by omega), h3, pk_sub (by omega)]
      rw [mpt_get0, e5, mpt_set0, mpt_get0, up_s, pk_mul]
      refine s_M_copies (x := 1) (y := 3) (by decide) (by decide) (by decide) S.f1.2 S.f3.2 (by omega) (by omega) (by decide) (by decide) ?_
      refine r_M_record_70 S.1 ?_
      rw [mpt_set0, mpt_get0]
      have c3 : cpV (up μ1 0 3 (nI 5)) 1 0 3 (5 * 596) 596 0 3 = nI 5 := by unfold cpV; rw [if_neg (by omega), up_s]
      rw [c3, nI_s]
      refine H _ (fun j k hj hjk => ?_) up_s (fun i hi j hj => ?_)
      · rw [up_n hjk]; unfold cpV; rw [if_neg (fun z => hj z.1), up_n hjk]; exact g0 j k hj
      · rw [up_n (by omega), if_neg (by omega)]
        unfold cpV
        by_cases q : i = 5
        · rw [if_pos q, if_pos ⟨rfl, by omega, by omega⟩, up_n (by omega), g0 1 _ (by omega)]
          exact congrArg (μ 1) (by omega)
        · rw [if_neg q, if_neg (by omega), up_n (by omega), g1 _ (by omega)]
          exact congrArg (μ 3) (by omega)
    | succ r ih =>
      intro k μ1 hk g0 g1 g2
      refine r_M_record_11 S.1 S.f1.1 S.f3.1 S.f3.2 (fun z => absurd z (nI_ge (by omega) (by omega))) (fun _ => by rw [nI_add]; exact inb (by omega)) (fun _ => inb (by omega)) (fun _ => ?_)
      rw [nI_add k 596, cl (by omega : k + 596 < 2 ^ 31), cl (by omega : k < 2 ^ 31), mpt_get (by decide), mpt_set (by decide), g2 (k + 596) (by omega), nI_s]
      refine ih (k + 1) _ (by omega) (fun j k hj => by rw [up_n (by omega)]; exact g0 j k hj) (fun j hj => ?_) (fun j hj => by rw [up_n (by omega)]; exact g2 j (by omega))
      by_cases q : j = k
      · rw [q, up_s]
      · rw [up_n (by omega)]; exact g1 j (by omega)
theorem s_M_undo {h : sn_H} {m s : Nat} {μ : sn_V} {Q : Option Value → sn_H → Prop} (S : MoS h m) (hs : s ≤ 6) (h3 : μ 0 3 = nI s)
    (H0 : s = 0 → Q (some (.int (-(nI 20003)))) (mpt h m μ))
    (H : 0 < s → ∀ μ', (∀ j k, j ≠ 1 → ¬ (j = 0 ∧ k = 3) → μ' j k = μ j k) → μ' 0 3 = nI (s - 1) → (∀ j, j < 596 → μ' 1 j = μ 3 (596 * (s - 1) + j)) → Q (some (.int (nI (s - 1)))) (mpt h m μ')) :
    wpE 172 0 [some (.ref m)] [] (mpt h m μ) (0, 0) Q := by
  have e3 : hG (mpt h m μ) m 3 = nI s := by rw [mpt_get0]; exact h3
  refine r_M_undo_0 S.1 S.f3.1 S.f1.1 (fun z => ?_) (fun z => ?_)
  · rw [e3] at z ⊢
    have s0 : 0 < s := by
      rcases Nat.eq_zero_or_pos s with q | q
      · rw [q, nI_0] at z; exact absurd rfl z
      · exact q
    rw [pk_sub (by omega), mpt_set0, mpt_get0, up_s, pk_mul]
    refine s_M_copies (x := 3) (y := 1) (by decide) (by decide) (by decide) S.f3.2 S.f1.2 (by omega) (by omega) (by decide) (by decide) ?_
    refine r_M_undo_41 S.1 ?_
    rw [mpt_get0]
    have c3 : cpV (up μ 0 3 (nI (s - 1))) 3 ((s - 1) * 596) 1 0 596 0 3 = nI (s - 1) := by unfold cpV; rw [if_neg (by omega), up_s]
    rw [c3]
    refine H s0 _ (fun j k hj hjk => ?_) c3 (fun j hj => ?_)
    · unfold cpV; rw [if_neg (fun z => hj z.1), up_n hjk]
    · unfold cpV
      rw [if_pos ⟨rfl, by omega, by omega⟩, up_n (by omega)]
      exact congrArg (μ 3) (by omega)
  · rw [e3, ← nI_0] at z
    exact H0 ((nI_eq (by omega) (by omega)).mp z)
