/-! ===== the Model: hasRing, findCommits ===== -/
theorem mR_c {μ μ' : sn_V} {c w a b : Nat} {own : Bool} {pt : Int32} (e : μ' 1 = μ 1) : mR μ' c w own pt a b = mR μ c w own pt a b := by unfold mR; rw [mS_c e]
theorem slot_n : ∀ w, w < 8 → ¬ nI w = -(nI 20006) := by decide +kernel
theorem s_M_hasRing {h : sn_H} {m c w : Nat} {μ0 : sn_V} {Q : Option Value → sn_H → Prop} (S : MoS h m) (hc : c < 2 ^ 30) (h0 : μ0 1 0 = nI c) (hw : w < 8)
    (H : ∀ μ, (∀ j k, j ≠ 5 → j ≠ 6 → ¬ (j = 0 ∧ k = 6) → μ j k = μ0 j k) → μ 0 6 = nI w → (∀ a j, a < 17 → j < 17 → (bitP (μ 5 a) j ↔ mR μ0 c w true (nI 7) a j = true)) → (∀ x, x < 17 → μ 6 x = fe (dst (mR μ0 c w true (nI 7)) 17 16 16 x)) →
      Q (some (.int (bi (decide (nxN (mR μ0 c w true (nI 7)) (dst (mR μ0 c w true (nI 7)) 17 16 16) 16 17 ≠ 17))))) (mpt h m μ)) :
    wpE 118 0 [some (.ref m), some (.int (nI w))] [] (mpt h m μ0) (0, 0) Q := by
  have e1 : (up μ0 0 6 (nI w)) 1 = μ0 1 := funext fun k => up_n (by omega)
  refine r_M_hasRing_0 S.1 ?_
  rw [mpt_set0]
  refine s_M_findBehind (w := w) (own := true) S hc (by rw [up_n (by omega)]; exact h0) hw (by rw [up_s]; exact ⟨fun _ => slot_n w hw, fun _ => rfl⟩) (fun _ => up_s) (fun μ1 g1 g2 => ?_)
  have b1 : ∀ a j, a < 17 → j < 17 → (bitP (μ1 5 a) j ↔ mR μ0 c w true (nI 7) a j = true) := fun a j ha hj => by
    rw [g2 a j ha (by omega), mR_c e1]
    exact ⟨fun q => q.2, fun q => ⟨hj, q⟩⟩
  refine r_M_hasRing_11 S.1 ?_
  refine s_M_findFar (l := 16) (R := mR μ0 c w true (nI 7)) S (by omega) b1 (fun μ2 f1 f2 => ?_)
  refine r_M_hasRing_17 S.1 ?_
  have b2 : ∀ a j, a < 17 → j < 17 → (bitP (μ2 5 a) j ↔ mR μ0 c w true (nI 7) a j = true) := fun a j ha hj => by rw [f1 5 a (by omega)]; exact b1 a j ha hj
  have o2 : ∀ j k, j ≠ 5 → j ≠ 6 → ¬ (j = 0 ∧ k = 6) → μ2 j k = μ0 j k := fun j k p q r => by rw [f1 j k q, g1 j k p, up_n r]
  have w2 : μ2 0 6 = nI w := by rw [f1 0 6 (by omega), g1 0 6 (by omega), up_s]
  refine s_M_nextNode (a := 16) (R := mR μ0 c w true (nI 7)) (D := dst (mR μ0 c w true (nI 7)) 17 16 16) (mpt_A S) (by omega) (fun j hj => b2 16 j (by omega) hj) f2 (fun x => dst_17 (by omega)) ?_
  have r := H μ2 o2 w2 b2 f2
  have n18 : nxN (mR μ0 c w true (nI 7)) (dst (mR μ0 c w true (nI 7)) 17 16 16) 16 17 < 18 := by rcases @nxN_lt (mR μ0 c w true (nI 7)) (dst (mR μ0 c w true (nI 7)) 17 16 16) 16 17 with q | q <;> omega
  refine r_M_hasRing_23 (fun z => ?_) (fun z => ?_)
  · rw [fe_17 _ n18] at z
    rw [decide_eq_false (fun n => n z)] at r
    exact r
  · rw [fe_17 _ n18] at z
    rw [decide_eq_true z] at r
    exact r
theorem s_M_findCommits {h : sn_H} {m c : Nat} {pt : Int32} {μ0 : sn_V} {Q : Option Value → sn_H → Prop} (S : MoS h m) (hc : c < 2 ^ 30) (h0 : μ0 1 0 = nI c)
    (H : ∀ μ, (∀ j k, j ≠ 5 → ¬ (j = 0 ∧ k = 6) → μ j k = μ0 j k) → μ 0 6 = -(nI 20006) → (∀ a j, a < 17 → j < 32 → (bitP (μ 5 a) j ↔ j < 17 ∧ mR μ0 c 0 false pt a j = true)) → Q none (mpt h m μ)) :
    wpE 148 0 [some (.ref m), some (.int pt)] [] (mpt h m μ0) (0, 0) Q := by
  have e1 : (up μ0 0 6 (-(nI 20006))) 1 = μ0 1 := funext fun k => up_n (by omega)
  refine r_M_findCommits_0 S.1 ?_
  rw [mpt_set0]
  refine s_M_findBehind (w := 0) (own := false) S hc (by rw [up_n (by omega)]; exact h0) (by omega) (by rw [up_s]; exact ⟨fun q => absurd q (by decide), fun q => absurd rfl q⟩) (fun q => absurd q (by decide)) (fun μ1 g1 g2 => ?_)
  refine r_M_findCommits_12 (H μ1 (fun j k p r => by rw [g1 j k p, up_n r]) (by rw [g1 0 6 (by omega), up_s]) (fun a j ha hj => by rw [g2 a j ha hj, mR_c e1]))
