/-! ===== State's methods, two ===== -/
/-- what Integer.bitCount answers -/
def bcI (v0 : Int32) : Int32 := ((((((((v0 - ((v0.toUInt32 >>> ((nI 1).toUInt32 &&& Int32.toUInt32 31)).toInt32 &&& nI 1431655765)) &&& nI 858993459) + (((v0 - ((v0.toUInt32 >>> ((nI 1).toUInt32 &&& Int32.toUInt32 31)).toInt32 &&& nI 1431655765)).toUInt32 >>> ((nI 2).toUInt32 &&& Int32.toUInt32 31)).toInt32 &&& nI 858993459)) + ((((v0 - ((v0.toUInt32 >>> ((nI 1).toUInt32 &&& Int32.toUInt32 31)).toInt32 &&& nI 1431655765)) &&& nI 858993459) + (((v0 - ((v0.toUInt32 >>> ((nI 1).toUInt32 &&& Int32.toUInt32 31)).toInt32 &&& nI 1431655765)).toUInt32 >>> ((nI 2).toUInt32 &&& Int32.toUInt32 31)).toInt32 &&& nI 858993459)).toUInt32 >>> ((nI 4).toUInt32 &&& Int32.toUInt32 31)).toInt32) &&& nI 252645135) + ((((((v0 - ((v0.toUInt32 >>> ((nI 1).toUInt32 &&& Int32.toUInt32 31)).toInt32 &&& nI 1431655765)) &&& nI 858993459) + (((v0 - ((v0.toUInt32 >>> ((nI 1).toUInt32 &&& Int32.toUInt32 31)).toInt32 &&& nI 1431655765)).toUInt32 >>> ((nI 2).toUInt32 &&& Int32.toUInt32 31)).toInt32 &&& nI 858993459)) + ((((v0 - ((v0.toUInt32 >>> ((nI 1).toUInt32 &&& Int32.toUInt32 31)).toInt32 &&& nI 1431655765)) &&& nI 858993459) + (((v0 - ((v0.toUInt32 >>> ((nI 1).toUInt32 &&& Int32.toUInt32 31)).toInt32 &&& nI 1431655765)).toUInt32 >>> ((nI 2).toUInt32 &&& Int32.toUInt32 31)).toInt32 &&& nI 858993459)).toUInt32 >>> ((nI 4).toUInt32 &&& Int32.toUInt32 31)).toInt32) &&& nI 252645135).toUInt32 >>> ((nI 8).toUInt32 &&& Int32.toUInt32 31)).toInt32) + (((((((v0 - ((v0.toUInt32 >>> ((nI 1).toUInt32 &&& Int32.toUInt32 31)).toInt32 &&& nI 1431655765)) &&& nI 858993459) + (((v0 - ((v0.toUInt32 >>> ((nI 1).toUInt32 &&& Int32.toUInt32 31)).toInt32 &&& nI 1431655765)).toUInt32 >>> ((nI 2).toUInt32 &&& Int32.toUInt32 31)).toInt32 &&& nI 858993459)) + ((((v0 - ((v0.toUInt32 >>> ((nI 1).toUInt32 &&& Int32.toUInt32 31)).toInt32 &&& nI 1431655765)) &&& nI 858993459) + (((v0 - ((v0.toUInt32 >>> ((nI 1).toUInt32 &&& Int32.toUInt32 31)).toInt32 &&& nI 1431655765)).toUInt32 >>> ((nI 2).toUInt32 &&& Int32.toUInt32 31)).toInt32 &&& nI 858993459)).toUInt32 >>> ((nI 4).toUInt32 &&& Int32.toUInt32 31)).toInt32) &&& nI 252645135) + ((((((v0 - ((v0.toUInt32 >>> ((nI 1).toUInt32 &&& Int32.toUInt32 31)).toInt32 &&& nI 1431655765)) &&& nI 858993459) + (((v0 - ((v0.toUInt32 >>> ((nI 1).toUInt32 &&& Int32.toUInt32 31)).toInt32 &&& nI 1431655765)).toUInt32 >>> ((nI 2).toUInt32 &&& Int32.toUInt32 31)).toInt32 &&& nI 858993459)) + ((((v0 - ((v0.toUInt32 >>> ((nI 1).toUInt32 &&& Int32.toUInt32 31)).toInt32 &&& nI 1431655765)) &&& nI 858993459) + (((v0 - ((v0.toUInt32 >>> ((nI 1).toUInt32 &&& Int32.toUInt32 31)).toInt32 &&& nI 1431655765)).toUInt32 >>> ((nI 2).toUInt32 &&& Int32.toUInt32 31)).toInt32 &&& nI 858993459)).toUInt32 >>> ((nI 4).toUInt32 &&& Int32.toUInt32 31)).toInt32) &&& nI 252645135).toUInt32 >>> ((nI 8).toUInt32 &&& Int32.toUInt32 31)).toInt32).toUInt32 >>> ((nI 16).toUInt32 &&& Int32.toUInt32 31)).toInt32) &&& nI 63)
theorem s_I_bitCount {x : Int32} {h : sn_H} {Q : Option Value → sn_H → Prop} (H : Q (some (.int (bcI x))) h) : wpE 24 0 [some (.int x)] [] h (0, 0) Q := r_I_bitCount_0 H
/-- ones among the lowest n bits, as a number -/
def onesI (x : Int32) : Nat → Int32
  | 0 => nI 0
  | n + 1 => onesI x n + ((x >>> (nI n &&& 31)) &&& nI 1)
set_option maxRecDepth 100000 in
theorem bc_ones : ∀ w, w < 4096 → bcI (nI w) = onesI (nI w) 12 := by decide +kernel
theorem s_S_writeKey {h : sn_H} {b i k : Nat} {v : Int32} {σ : sn_V} {Q : Option Value → sn_H → Prop} (A : StA h b σ) (hi : i < 8) (hk : k < 12) (H : Q (some (.int (bcI (fWrite σ i k v 8 i)))) (hput h b (fWrite σ i k v))) : wpE 23 0 [some (.ref b), some (.int (nI i)), some (.int (nI k)), some (.int v)] [] h (0, 0) Q := by
  have ci : (nI i).toNatClampNeg = i := cl (by omega)
  have cik : (nI (i * 12 + k)).toNatClampNeg = i * 12 + k := cl (by omega)
  have S := A.1
  obtain ⟨h0, rfl⟩ := A.ex
  rw [hput_hput] at H
  refine r_S_writeKey_0 S.1 S.f11 S.k8 S.f13 S.k10 (inb (by omega)) (by rw [ixm]; exact inb (by omega)) ?_
  rw [ixm, ci, cik]
  simp only [hput_set, hput_get, Nat.reduceLeDiff]
  refine r_S_writeKey_24 S.1 S.f11 S.k8 (inb (by omega)) ?_
  rw [ci]
  simp only [hput_get, Nat.reduceLeDiff]
  exact s_I_bitCount (r_S_writeKey_33 H)
/-- abort -/
def fFree (σ : sn_V) (i : Nat) : sn_V := up σ 0 3 (σ 0 3 &&& ((nI 1 <<< (nI i &&& 31)) ^^^ -(nI 1)))
def fGive (σ : sn_V) (i : Nat) : sn_V := up (fFree σ i) 0 2 (σ 0 2 + nI 1)
theorem s_S_giveUp {h : sn_H} {b i : Nat} {σ : sn_V} {Q : Option Value → sn_H → Prop} (A : StA h b σ) (hi : i < 8) (H : Q (some (.int (bcI (σ 8 i)))) (hput h b (fGive σ i))) : wpE 45 0 [some (.ref b), some (.int (nI i))] [] h (0, 0) Q := by
  have ci : (nI i).toNatClampNeg = i := cl (by omega)
  have S := A.1
  obtain ⟨h0, rfl⟩ := A.ex
  rw [hput_hput] at H
  refine r_S_giveUp_0 S.1 ?_
  simp only [hput_set0, hput_get0]
  have e1 : up (up σ 0 3 (σ 0 3 &&& ((nI 1 <<< (nI i &&& 31)) ^^^ -(nI 1)))) 0 2 (up σ 0 3 (σ 0 3 &&& ((nI 1 <<< (nI i &&& 31)) ^^^ -(nI 1))) 0 2 + nI 1) = fGive σ i := rfl
  rw [e1]
  refine r_S_giveUp_15 S.1 S.f11 S.k8 (inb (by omega)) ?_
  rw [ci, hput_get (by decide)]
  exact s_I_bitCount (r_S_giveUp_24 H)
/-- a State takes another one's numbers -/
theorem hput_set0' {h : sn_H} {b k : Nat} {σ : sn_V} {v : Int32} : setG (hput h b σ) b k v = hput h b (up σ 0 k v) := hput_set0
def cpO (σ τ : sn_V) (j n : Nat) : sn_V := fun j' k' => if j' = j ∧ k' < n then τ j k' else σ j' k'
theorem hput_cpO {h : sn_H} {b b' j n : Nat} {σ τ : sn_V} (A : StA h b' τ) (hb : b' + 10 < b ∨ b + 10 < b') (hj : j ≤ 10) : cpG (hput h b σ) (b' + j) 0 (b + j) 0 n = hput h b (cpO σ τ j n) := by
  unfold hput cpG cpO
  simp only [Prod.mk.injEq, true_and]
  funext p i
  by_cases hp : b ≤ p ∧ p ≤ b + 10
  · simp only [hp, and_self, if_true]
    by_cases hq : p = b + j
    · subst hq
      simp only [Nat.add_sub_cancel_left, true_and, Nat.zero_add, Nat.zero_le, Nat.sub_zero]
      rw [if_neg (by omega : ¬ (b ≤ b' + j ∧ b' + j ≤ b + 10))]
      by_cases hi : i < n
      · rw [if_pos hi, if_pos hi]
        exact A.2 j hj i
      · rw [if_neg hi, if_neg hi]
    · rw [if_neg (fun z => hq z.1), if_neg (fun z => hq (by omega))]
  · rw [if_neg (fun z => hp (by omega)), if_neg hp, if_neg hp]
theorem fCopy_eq {σ τ : sn_V} (Z : StZ σ) (Z' : StZ τ) : ∀ j k, j ≤ 10 → cpO (cpO (cpO (cpO (cpO (cpO (cpO (cpO (cpO (cpO (up (up (up (up σ 0 0 (τ 0 0)) 0 1 (τ 0 1)) 0 2 (τ 0 2)) 0 3 (τ 0 3)) τ 1 4) τ 2 3) τ 3 3) τ 4 12) τ 5 12) τ 6 24) τ 7 24) τ 8 24) τ 9 288) τ 10 96 j k = τ j k := by
  intro j k hj
  by_cases hk : k < stL0 j
  · have : j = 0 ∨ j = 1 ∨ j = 2 ∨ j = 3 ∨ j = 4 ∨ j = 5 ∨ j = 6 ∨ j = 7 ∨ j = 8 ∨ j = 9 ∨ j = 10 := by omega
    rcases this with rfl | rfl | rfl | rfl | rfl | rfl | rfl | rfl | rfl | rfl | rfl
    · have hk : k < 4 := hk
      have : k = 0 ∨ k = 1 ∨ k = 2 ∨ k = 3 := by omega
      rcases this with rfl | rfl | rfl | rfl <;> rfl
    all_goals
      simp [stL0, stLen, sn_nth] at hk
      simp [cpO, hk]
  · have h1 : τ j k = 0 := Z' j k hj (by omega)
    have h2 : σ j k = 0 := Z j k hj (by omega)
    rw [h1]
    have : j = 0 ∨ j = 1 ∨ j = 2 ∨ j = 3 ∨ j = 4 ∨ j = 5 ∨ j = 6 ∨ j = 7 ∨ j = 8 ∨ j = 9 ∨ j = 10 := by omega
    rcases this with rfl | rfl | rfl | rfl | rfl | rfl | rfl | rfl | rfl | rfl | rfl
    · have hk : ¬ k < 4 := hk
      have e0 : ¬ k = 0 := by omega
      have e1 : ¬ k = 1 := by omega
      have e2 : ¬ k = 2 := by omega
      have e3 : ¬ k = 3 := by omega
      simp [cpO, up, e0, e1, e2, e3, h2]
    all_goals
      simp [stL0, stLen, sn_nth] at hk
      simp [cpO, up, hk, h2]
      try omega
theorem hput_cong {h : sn_H} {b : Nat} {σ τ : sn_V} (e : ∀ j k, j ≤ 10 → σ j k = τ j k) : hput h b σ = hput h b τ := by
  unfold hput
  simp only [Prod.mk.injEq, true_and]
  funext p k
  by_cases hp : b ≤ p ∧ p ≤ b + 10
  · rw [if_pos hp, if_pos hp, e _ _ (by omega)]
  · rw [if_neg hp, if_neg hp]
theorem s_S_copyFrom {h : sn_H} {b b' : Nat} {σ τ : sn_V} {Q : Option Value → sn_H → Prop} (A : StA h b σ) (A' : StA h b' τ) (hb : b' + 10 < b ∨ b + 10 < b') (Z : StZ σ) (Z' : StZ τ) (H : Q none (hput h b τ)) : wpE 7 0 [some (.ref b), some (.ref b')] [] h (0, 0) Q := by
  have S := A.1
  have S' := A'.1
  have g0 : ∀ (ρ : sn_V) k, hG (hput h b ρ) b' k = τ 0 k := fun ρ k => (hput_o (by omega)).trans (A'.2 0 (by decide) k)
  have hh := A.put
  have e0 : ∀ k, hG h b' k = τ 0 k := fun k => A'.2 0 (by decide) k
  refine r_S_copyFrom_0 S'.1 S.1 ?_
  have E : ∀ h1, h1 = hput h b σ → (setG (setG (setG h1 b 0 (hG h1 b' 0)) b 1 (hG (setG h1 b 0 (hG h1 b' 0)) b' 1)) b 2 (hG (setG (setG h1 b 0 (hG h1 b' 0)) b 1 (hG (setG h1 b 0 (hG h1 b' 0)) b' 1)) b' 2)) = hput h b (up (up (up σ 0 0 (τ 0 0)) 0 1 (τ 0 1)) 0 2 (τ 0 2)) := by
    intro h1 e1
    subst e1
    simp only [g0, hput_set0]
  rw [E h hh]
  refine r_S_copyFrom_24 S'.1 S.1 S'.f4 S.f4 S'.k1 S.k1 S'.f5 S.f5 S'.k2 S.k2 S'.f6 S.f6 S'.k3 S.k3 S'.f7 S.f7 S'.k4 S.k4 S'.f8 S.f8 S'.k5 S.k5 S'.f9 S.f9 S'.k6 S.k6 (by decide) (by decide) (by decide) (by decide) (by decide) (by decide) (by decide) (by decide) (by decide) (by decide) (by decide) (by decide) ?_
  simp only [g0, hput_set0, hput_cpO (j := 1) A' hb (by decide), hput_cpO (j := 2) A' hb (by decide), hput_cpO (j := 3) A' hb (by decide), hput_cpO (j := 4) A' hb (by decide), hput_cpO (j := 5) A' hb (by decide), hput_cpO (j := 6) A' hb (by decide)]
  refine r_S_copyFrom_119 S'.1 S'.f10 S.1 S.f10 S'.k7 S.k7 S'.f11 S.f11 S'.k8 S.k8 S'.f12 S.f12 S'.k9 S.k9 S'.f13 S.f13 S'.k10 S.k10 (by decide) (by decide) (by decide) (by decide) (by decide) (by decide) (by decide) (by decide) ?_
  simp only [hput_cpO (j := 7) A' hb (by decide), hput_cpO (j := 8) A' hb (by decide), hput_cpO (j := 9) A' hb (by decide), hput_cpO (j := 10) A' hb (by decide)]
  rw [hput_cong (fCopy_eq Z Z')]
  exact H
