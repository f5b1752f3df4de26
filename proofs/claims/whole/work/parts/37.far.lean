/-! ===== the Model: findFar ===== -/
def fe (d : Nat) : Int32 := if d = 17 then -(nI 20006) else nI d
theorem fe_17 : ∀ d, d < 18 → (fe d = -(nI 20006) ↔ d = 17) := by decide +kernel
theorem fe_s : ∀ d, d < 18 → ∀ s, s < 17 → (fe d = nI s ↔ d = s) := by decide +kernel
theorem dst_17 {R : Nat → Nat → Bool} {n l k i : Nat} (hk : k ≤ 17) : dst R n l k i < 18 := by rcases @dst_le R n l k i with q | q <;> omega
def pvN (R : Nat → Nat → Bool) (l s a b : Nat) : Nat := if dst R 17 l s a = 17 ∧ anyN (fun j => R a j && decide (dst R 17 l s j = s)) b = true then s + 1 else dst R 17 l s a
theorem pvN_17 {R : Nat → Nat → Bool} {l s a : Nat} : pvN R l s a 17 = dst R 17 l (s + 1) a := by rw [dst_s]; rfl
theorem pvN_0 {R : Nat → Nat → Bool} {l s a : Nat} : pvN R l s a 0 = dst R 17 l s a := if_neg (fun q => absurd q.2 (by show ¬ false = true; decide))
theorem pvN_f {R : Nat → Nat → Bool} {l s a b : Nat} (h : (R a b && decide (dst R 17 l s b = s)) = false) : pvN R l s a (b + 1) = pvN R l s a b := by
  unfold pvN
  rw [anyN, h, Bool.or_false]
theorem pvN_k {R : Nat → Nat → Bool} {l s a b : Nat} (h : pvN R l s a b ≠ 17) : pvN R l s a (b + 1) = pvN R l s a b := by
  unfold pvN at h ⊢
  by_cases q : dst R 17 l s a = 17
  · by_cases q2 : anyN (fun j => R a j && decide (dst R 17 l s j = s)) b = true
    · have q3 : anyN (fun j => R a j && decide (dst R 17 l s j = s)) (b + 1) = true := by rw [anyN, q2]; rfl
      rw [if_pos ⟨q, q3⟩, if_pos ⟨q, q2⟩]
    · rw [if_neg (fun z => q2 z.2)] at h; exact absurd q h
  · rw [if_neg (fun z => q z.1), if_neg (fun z => q z.1)]
theorem s_M_farPass {h : sn_H} {m l s : Nat} {μ0 : sn_V} {R : Nat → Nat → Bool} {Q : Option Value → sn_H → Prop} (S : MoS h m) (hs : s < 16)
    (hR : ∀ a j, a < 17 → j < 17 → (bitP (μ0 5 a) j ↔ R a j = true)) :
    ∀ (a : Nat), a < 17 → (∀ μ, (∀ j k, j ≠ 6 → μ j k = μ0 j k) → (∀ x, x < 17 → μ 6 x = fe (dst R 17 l (if x < a + 1 then s + 1 else s) x)) → wpE 127 42 [some (.ref m), none, some (.int (nI (s + 1))), some (.int (nI (a + 1))), none] [] (mpt h m μ) (0, 0) Q) →
      ∀ (r b : Nat) (μ : sn_V), b + r = 17 → (∀ j k, j ≠ 6 → μ j k = μ0 j k) → (∀ x, x < 17 → μ 6 x = fe (if x = a then pvN R l s a b else dst R 17 l (if x < a then s + 1 else s) x)) →
      wpE 127 51 [some (.ref m), none, some (.int (nI (s + 1))), some (.int (nI a)), some (.int (nI b))] [] (mpt h m μ) (0, 0) Q := by
  intro a ha K r
  induction r with
  | zero =>
    intro b μ hb hμ h6
    have e : b = 17 := hb
    subst e
    refine r_M_findFar_51 S.1 S.f6.1 S.f6.2 S.f5.1 S.f5.2 (fun _ => ?_) (fun z => absurd (Int32.le_refl _) z) (fun z => absurd (Int32.le_refl _) z) (fun z => absurd (Int32.le_refl _) z) (fun z => absurd (Int32.le_refl _) z) (fun z => absurd (Int32.le_refl _) z) (fun z => absurd (Int32.le_refl _) z) (fun z => absurd (Int32.le_refl _) z)
    rw [nI_s]
    refine K μ hμ (fun x hx => ?_)
    rw [h6 x hx]
    by_cases q : x = a
    · rw [if_pos q, if_pos (by omega), pvN_17, q]
    · rw [if_neg q]
      by_cases q2 : x < a
      · rw [if_pos q2, if_pos (by omega)]
      · rw [if_neg q2, if_neg (by omega)]
  | succ r ih =>
    intro b μ hb hμ h6
    have ca : (nI a).toNatClampNeg = a := cl (by omega)
    have cb : (nI b).toNatClampNeg = b := cl (by omega)
    have es : nI (s + 1) - nI 1 = nI s := by rw [← nI_s s, Int32.add_sub_cancel]
    have p18 : pvN R l s a b < 18 := by
      unfold pvN
      split
      · omega
      · exact dst_17 (by omega)
    have ea : μ 6 a = fe (pvN R l s a b) := by rw [h6 a ha, if_pos rfl]
    have go : ∀ (v : Int32), v = fe (pvN R l s a (b + 1)) → wpE 127 51 [some (.ref m), none, some (.int (nI (s + 1))), some (.int (nI a)), some (.int (nI b + nI 1))] [] (mpt h m (up μ 6 a v)) (0, 0) Q := by
      rintro _ rfl
      rw [nI_s]
      refine ih (b + 1) _ (by omega) (fun j k hj => by rw [up_n (by omega)]; exact hμ j k hj) (fun x hx => ?_)
      by_cases q : x = a
      · rw [q, up_s, if_pos rfl]
      · rw [up_n (by omega), h6 x hx, if_neg q, if_neg q]
    have eb : pvN R l s a b = 17 → (μ 6 b = nI s ↔ dst R 17 l s b = s) := by
      intro q17
      by_cases q : b = a
      · have hd : dst R 17 l s a = 17 := by
          unfold pvN at q17
          split at q17
          · omega
          · exact q17
        rw [q, ea, fe_s _ p18 s (by omega), q17, hd]
      · rw [h6 b (by omega), if_neg q, fe_s _ (dst_17 (by split <;> omega)) s (by omega)]
        by_cases q2 : b < a
        · rw [if_pos q2]
          by_cases q3 : dst R 17 l s b = 17
          · constructor
            · intro z
              rw [dst_s] at z
              split at z <;> omega
            · omega
          · rw [dst_keep q3]
        · rw [if_neg q2]
    refine r_M_findFar_51 S.1 S.f6.1 S.f6.2 S.f5.1 S.f5.2 (fun z => absurd z (nI_ge (by omega) (by omega))) (fun _ => inb (by omega)) (fun _ z => ?_) (fun _ _ => inb (by omega)) (fun _ z y => ?_) (fun _ _ _ => inb (by omega)) (fun _ z y u => ?_) (fun _ z y u => ?_)
    · rw [ca, mpt_get (by decide), ea, fe_17 _ p18] at z
      rw [ca, mpt_get (by decide), mpt_set (by decide)]
      exact go _ (by rw [ea, pvN_k z])
    · rw [ca, mpt_get (by decide)] at y
      rw [ca, mpt_get (by decide), mpt_set (by decide)]
      have rf : R a b = false := Bool.eq_false_iff.mpr (fun q => y (by rw [hμ 5 a (by omega)]; exact (hR a b ha (by omega)).mpr q))
      exact go _ (by rw [ea, pvN_f (by rw [rf]; rfl)])
    · rw [ca, mpt_get (by decide), ea, fe_17 _ p18] at z
      rw [cb, mpt_get (by decide), es, eb z] at u
      rw [ca, mpt_get (by decide), mpt_set (by decide)]
      exact go _ (by rw [ea, pvN_f (by rw [decide_eq_false u, Bool.and_false])])
    · rw [ca, mpt_get (by decide), ea, fe_17 _ p18] at z
      rw [cb, mpt_get (by decide), es, eb z] at u
      rw [ca, mpt_get (by decide), hμ 5 a (by omega)] at y
      rw [ca, mpt_set (by decide)]
      have hd : dst R 17 l s a = 17 := by
        unfold pvN at z
        split at z
        · omega
        · exact z
      have e1 : pvN R l s a (b + 1) = s + 1 := by
        unfold pvN
        rw [if_pos ⟨hd, by rw [anyN, (hR a b ha (by omega)).mp y, decide_eq_true u, Bool.or_eq_true]; exact Or.inr rfl⟩]
      exact go _ (by rw [e1]; unfold fe; rw [if_neg (by omega)])
