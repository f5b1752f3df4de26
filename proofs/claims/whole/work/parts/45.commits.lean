/-! ===== the Model: commits ===== -/
theorem nI_le0 {n : Nat} (hn : n < 2 ^ 31) : nI n ≤ 0 ↔ n = 0 := by
  rw [← nI_0, nI_leI hn (by omega)]
  omega
theorem s_M_commits {h : sn_H} {m c w p : Nat} {μ : sn_V} {Q : Option Value → sn_H → Prop} (S : MoS h m) (hc : c + 1 < 2 ^ 30) (h0 : μ 1 0 = nI c) (hw : w < 8) (hp : p < 3) (h1 : μ 1 1 = nI p)
    (H1 : 0 < wyM μ c w p → ∀ μ', (∀ j k, j ≠ 1 → j ≠ 5 → j ≠ 6 → ¬ (j = 0 ∧ k = 6) → μ' j k = μ j k) → (∀ j, ¬ (36 + 40 * w ≤ j ∧ j < 36 + 40 * w + 40) → j ≠ 1 + wyM μ c w p → μ' 1 j = μ 1 j) → μ' 1 (1 + wyM μ c w p) = μ 1 (1 + wyM μ c w p) + nI 1 →
      (∀ j, j < 40 → μ' 1 (36 + 40 * w + j) = nI 0) → Q (some (.int (-(nI (wyM μ c w p))))) (mpt h m μ'))
    (H2 : wyM μ c w p = 0 → ∀ μ', (∀ j k, j ≠ 1 → j ≠ 5 → j ≠ 6 → ¬ (j = 0 ∧ k = 6) → μ' j k = μ j k) → (∀ j, ¬ (36 + 40 * w ≤ j ∧ j < 36 + 40 * w + 40) → j ≠ 0 → ¬ (356 + 15 * ((c + 1) % 16) ≤ j ∧ j < 356 + 15 * ((c + 1) % 16) + 15) → ¬ (12 ≤ j ∧ j < 36) → μ' 1 j = μ 1 j) →
      μ' 1 0 = nI (c + 1) → (∀ k, k < 15 → μ' 1 (356 + 15 * ((c + 1) % 16) + k) = μ 1 (36 + 40 * w + k)) → (∀ k, k < 12 → μ' 1 (12 + k) = if bitP (μ 1 (36 + 40 * w + 2)) k then μ 1 (36 + 40 * w + 27 + k) else μ 1 (12 + k)) →
      (∀ k, k < 12 → μ' 1 (24 + k) = if bitP (μ 1 (36 + 40 * w + 2)) k then nI (c + 1) else μ 1 (24 + k)) → (∀ j, j < 40 → μ' 1 (36 + 40 * w + j) = nI 0) → Q (some (.int (nI (c + 1)))) (mpt h m μ')) :
    wpE 115 0 [some (.ref m), some (.int (nI w)), none, none] [] (mpt h m μ) (0, 0) Q := by
  refine r_M_commits_0 S.1 S.f1.1 S.f1.2 (inb (by omega)) ?_
  rw [cl (by omega : 1 < 2 ^ 31), mpt_get (by decide), h1]
  refine s_M_whyRefused S (by omega) h0 hw hp (fun μ1 g1 => ?_)
  have wl := wyM_lt μ c w p
  generalize wyM μ c w p = y at H1 H2 wl ⊢
  have ec : ∀ k, μ1 1 k = μ 1 k := fun k => g1 1 k (by omega) (by omega) (by omega)
  have e1 : mpt h m μ1 = mpt h m (wA μ1 (μ1 1)) := by rw [wA_self]
  rw [e1]
  refine r_M_commits_11 S.1 S.f1.1 S.f1.2 (fun _ => inb (by omega)) (fun z => ?_) (fun z => ?_) (fun z => ?_)
  · rw [nI_le0 (by omega)] at z
    have H2 := H2 z
    rw [mwG (by omega), mwS (by omega), ec, h0, nI_s]
    generalize hK : 356 + 15 * ((c + 1) % 16) = K at H2
    have hK2 : K + 15 ≤ 596 := by omega
    have hK1 : 356 ≤ K := by omega
    have ix : ∀ i, (nI 356 + (nI 15 * (nI (c + 1) - nI (c + 1) / nI 16 * nI 16))) + nI i = nI (K + i) := fun i => by rw [mod16 (by omega), pk_mul, nI_add, nI_add, hK]
    -- the end
    have fin : ∀ (a2 : Nat → Int32), (∀ j, j ≠ 0 → ¬ (K ≤ j ∧ j < K + 15) → ¬ (12 ≤ j ∧ j < 36) → a2 j = μ 1 j) → a2 0 = nI (c + 1) → (∀ k, k < 15 → a2 (K + k) = μ 1 (36 + 40 * w + k)) →
        (∀ k, k < 12 → a2 (12 + k) = if bitP (μ 1 (36 + 40 * w + 2)) k then μ 1 (36 + 40 * w + 27 + k) else μ 1 (12 + k)) → (∀ k, k < 12 → a2 (24 + k) = if bitP (μ 1 (36 + 40 * w + 2)) k then nI (c + 1) else μ 1 (24 + k)) →
        wpE 103 0 [some (.ref m), some (.int (nI w)), none] [] (mpt h m (wA μ1 a2)) (0, 0) (fun r hh => wpE 115 150 [some (.ref m), none, none, none] (r.toList ++ []) hh (0, 0) Q) := by
      intro a2 q1 q2 q3 q4 q5
      refine s_M_frees S hw (fun a3 f1 f2 => ?_)
      refine r_M_commits_150 S.1 S.f1.1 S.f1.2 (inb (by omega)) ?_
      rw [mwG (by omega), f1 0 (by omega), q2]
      refine H2 (wA μ1 a3) (fun j k r1 r2 r3 r4 => by rw [wA_n r1]; exact g1 j k r2 r3 r4) (fun j r1 r2 r3 r4 => by rw [wA_1, f1 j r1]; exact q1 j r2 r3 r4) (by rw [wA_1, f1 0 (by omega)]; exact q2) (fun k hk => by rw [wA_1, f1 _ (by omega)]; exact q3 k hk) (fun k hk => by rw [wA_1, f1 _ (by omega)]; exact q4 k hk) (fun k hk => by rw [wA_1, f1 _ (by omega)]; exact q5 k hk) (fun j hj => by rw [wA_1]; exact f2 j hj)
    -- the keys
    have keys : ∀ (r k : Nat) (a2 : Nat → Int32), k + r = 12 → (∀ j, j ≠ 0 → ¬ (K ≤ j ∧ j < K + 15) → ¬ (12 ≤ j ∧ j < 36) → a2 j = μ 1 j) → a2 0 = nI (c + 1) → (∀ k, k < 15 → a2 (K + k) = μ 1 (36 + 40 * w + k)) →
        (∀ j, j < 12 → a2 (12 + j) = if j < k ∧ bitP (μ 1 (36 + 40 * w + 2)) j then μ 1 (36 + 40 * w + 27 + j) else μ 1 (12 + j)) → (∀ j, j < 12 → a2 (24 + j) = if j < k ∧ bitP (μ 1 (36 + 40 * w + 2)) j then nI (c + 1) else μ 1 (24 + j)) →
        wpE 115 86 [some (.ref m), some (.int (nI w)), none, some (.int (nI k))] [] (mpt h m (wA μ1 a2)) (0, 0) Q := by
      intro r
      induction r with
      | zero =>
        intro k a2 hk q1 q2 q3 q4 q5
        have e : k = 12 := hk
        subst e
        have nn : ∀ {P : Prop}, ¬ nI 12 ≤ nI 12 → P := fun z => absurd (Int32.le_refl _) z
        refine r_M_commits_86 S.1 S.f1.1 S.f1.2 (fun _ => ?_) nn nn nn nn nn nn nn
        refine fin a2 q1 q2 q3 (fun j hj => ?_) (fun j hj => ?_)
        · rw [q4 j hj]; simp only [hj, true_and]
        · rw [q5 j hj]; simp only [hj, true_and]
      | succ r ih =>
        intro k a2 hk q1 q2 q3 q4 q5
        have nb : ∀ {P : Prop}, nI 12 ≤ nI k → P := fun z => absurd z (nI_ge (by omega) (by omega))
        refine r_M_commits_86 S.1 S.f1.1 S.f1.2 nb (fun _ => by rw [sl_ix]; exact inb (by omega)) (fun _ y => ?_) (fun _ _ => by rw [sl_ix2]; exact inb (by omega)) (fun _ _ => by rw [nI_add]; exact inb (by omega)) (fun _ _ => inb (by omega)) (fun _ _ => by rw [nI_add]; exact inb (by omega)) (fun _ y => ?_)
        · rw [sl_ix, mwG (by omega), q1 _ (by omega) (by omega) (by omega)] at y
          refine r_M_commits_139 ?_
          rw [nI_s]
          refine ih (k + 1) a2 (by omega) q1 q2 q3 (fun j hj => ?_) (fun j hj => ?_)
          · rw [q4 j hj]
            by_cases t : j = k
            · rw [t, if_neg (fun u => absurd u.1 (Nat.lt_irrefl k)), if_neg (fun u => y u.2)]
            · simp only [show (j < k + 1) = (j < k) from propext (by omega)]
          · rw [q5 j hj]
            by_cases t : j = k
            · rw [t, if_neg (fun u => absurd u.1 (Nat.lt_irrefl k)), if_neg (fun u => y u.2)]
            · simp only [show (j < k + 1) = (j < k) from propext (by omega)]
        · rw [sl_ix, mwG (by omega), q1 _ (by omega) (by omega) (by omega)] at y
          refine r_M_commits_139 ?_
          rw [sl_ix2, nI_add 12 k, nI_add 24 k, mwG (by omega), mwS (by omega), mwG (by omega), mwS (by omega), uA_n (by omega), q2, q1 (36 + 40 * w + 27 + k) (by omega) (by omega) (by omega), nI_s]
          refine ih (k + 1) _ (by omega) (fun j r1 r2 r3 => by rw [uA_n (by omega), uA_n (by omega)]; exact q1 j r1 r2 r3) (by rw [uA_n (by omega), uA_n (by omega)]; exact q2) (fun j hj => by rw [uA_n (by omega), uA_n (by omega)]; exact q3 j hj) (fun j hj => ?_) (fun j hj => ?_)
          · by_cases t : j = k
            · rw [t, uA_n (by omega), uA_s, if_pos ⟨by omega, y⟩]
            · rw [uA_n (by omega), uA_n (by omega), q4 j hj]
              simp only [show (j < k + 1) = (j < k) from propext (by omega)]
          · by_cases t : j = k
            · rw [t, uA_s, if_pos ⟨by omega, y⟩]
            · rw [uA_n (by omega), uA_n (by omega), q5 j hj]
              simp only [show (j < k + 1) = (j < k) from propext (by omega)]
    -- the row
    suffices ∀ (r k : Nat) (a2 : Nat → Int32), k + r = 15 → (∀ j, j ≠ 0 → ¬ (K ≤ j ∧ j < K + 15) → a2 j = μ 1 j) → a2 0 = nI (c + 1) → (∀ j, j < k → a2 (K + j) = μ 1 (36 + 40 * w + j)) → wpE 115 50 [some (.ref m), some (.int (nI w)), none, some (.int (nI k))] [] (mpt h m (wA μ1 a2)) (0, 0) Q from
      this 15 0 _ (Nat.zero_add _) (fun j r1 _ => by rw [uA_n r1]; exact ec j) uA_s (fun j hj => absurd hj (Nat.not_lt_zero j))
    intro r
    induction r with
    | zero =>
      intro k a2 hk q1 q2 q3
      have e : k = 15 := hk
      subst e
      have nn : ∀ {P : Prop}, ¬ nI 15 ≤ nI 15 → P := fun z => absurd (Int32.le_refl _) z
      refine r_M_commits_50 S.1 S.f1.1 S.f1.2 (fun _ => ?_) nn nn nn nn
      exact keys 12 0 a2 (Nat.zero_add _) (fun j r1 r2 _ => q1 j r1 r2) q2 q3 (fun j hj => by rw [if_neg (fun u => absurd u.1 (Nat.not_lt_zero j))]; exact q1 _ (by omega) (by omega)) (fun j hj => by rw [if_neg (fun u => absurd u.1 (Nat.not_lt_zero j))]; exact q1 _ (by omega) (by omega))
    | succ r ih =>
      intro k a2 hk q1 q2 q3
      refine r_M_commits_50 S.1 S.f1.1 S.f1.2 (fun z => absurd z (nI_ge (by omega) (by omega))) (fun _ => inb (by omega)) (fun _ => by rw [sl_ix]; exact inb (by omega)) (fun _ => ?_) (fun _ => ?_)
      · rw [mwG (by omega), q2, ix]; exact inb (by omega)
      · rw [mwG (by omega), q2, ix, sl_ix, mwG (by omega), mwS (by omega)]
        refine r_M_commits_78 ?_
        rw [nI_s]
        refine ih (k + 1) _ (by omega) (fun j r1 r2 => by rw [uA_n (by omega)]; exact q1 j r1 r2) (by rw [uA_n (by omega)]; exact q2) (fun j hj => ?_)
        by_cases t : j = k
        · rw [t, uA_s]; exact q1 _ (by omega) (by omega)
        · rw [uA_n (by omega)]; exact q3 j (by omega)
  · rw [nI_add, pk_sub (by omega)]; exact inb (by omega)
  · rw [nI_le0 (by omega)] at z
    have H1 := H1 (by omega)
    rw [nI_add, pk_sub (by omega), show 2 + y - 1 = 1 + y by omega, mwG (by omega), mwS (by omega), ec]
    refine s_M_frees S hw (fun a3 f1 f2 => r_M_commits_35 ?_)
    exact H1 (wA μ1 a3) (fun j k r1 r2 r3 r4 => by rw [wA_n r1]; exact g1 j k r2 r3 r4) (fun j r1 r2 => by rw [wA_1, f1 j r1, uA_n r2]; exact ec j) (by rw [wA_1, f1 _ (by omega), uA_s]) (fun j hj => by rw [wA_1]; exact f2 j hj)
