/-! ===== distances to a node, and Graph.countSteps, lowestBehind ===== -/
def dst (R : Nat → Nat → Bool) (n l : Nat) : Nat → Nat → Nat
  | 0, i => if i = l then 0 else 17
  | k + 1, i => if dst R n l k i = 17 ∧ anyN (fun j => R i j && decide (dst R n l k j = k)) n = true then k + 1 else dst R n l k i
theorem dst_le {R : Nat → Nat → Bool} {n l : Nat} : ∀ k i, dst R n l k i ≤ k ∨ dst R n l k i = 17 := by
  intro k
  induction k with
  | zero => intro i; unfold dst; split <;> simp
  | succ k ih =>
    intro i
    unfold dst
    split
    · exact Or.inl (Nat.le_refl _)
    · rcases ih i with q | q
      · exact Or.inl (by omega)
      · exact Or.inr q
theorem dst_s {R : Nat → Nat → Bool} {n l k i : Nat} : dst R n l (k + 1) i = if dst R n l k i = 17 ∧ anyN (fun j => R i j && decide (dst R n l k j = k)) n = true then k + 1 else dst R n l k i := rfl
theorem and_0 {x y : Int32} : (x &&& y) = 0 ↔ ∀ k, k < 32 → ¬ (bitP x k ∧ bitP y k) := by
  constructor
  · intro z k hk q
    have := (bitP_and hk).mpr q
    rw [z] at this
    exact bitP_0 hk this
  · intro z
    refine b_ext (fun i hi => ?_)
    rw [b_0]
    by_cases q : bt (x &&& y) i = true
    · exact absurd ((bitP_and hi).mp ((bitP_bt hi).mpr q)) (z i hi)
    · exact Bool.eq_false_iff.mpr q
theorem s_G_stepsInner {h : sn_H} {g n l k : Nat} {γ0 : sn_V} {lt : Int32} {R : Nat → Nat → Bool} {Q : Option Value → sn_H → Prop} (S : GrS h g) (hn : n ≤ 17) (hk : k + 1 < n) (hl : l < n) (h0 : γ0 0 0 = nI n)
    (hR : ∀ i j, i < n → j < 31 → (bitP (γ0 4 i) j ↔ R i j = true)) (hlt : ∀ j, j < 32 → (bitP lt j ↔ j < n ∧ dst R n l k j = k))
    (H : ∀ γ nx, (∀ j k, j ≠ 7 → γ j k = γ0 j k) → (∀ j, j < n → γ 7 j = nI (dst R n l (k + 1) j)) → (∀ j, j < 32 → (bitP nx j ↔ j < n ∧ dst R n l (k + 1) j = k + 1)) → wpE 37 37 [some (.ref g), none, some (.int nx), some (.int (nI (k + 2))), none, none] [] (hpg h g γ) (0, 0) Q) :
    ∀ (m i : Nat) (γ : sn_V) (nx : Int32), i + m = n → (∀ j k, j ≠ 7 → γ j k = γ0 j k) → (∀ j, j < n → γ 7 j = nI (dst R n l (if j < i then k + 1 else k) j)) → (∀ j, j < 32 → (bitP nx j ↔ j < i ∧ dst R n l (k + 1) j = k + 1)) →
      wpE 37 51 [some (.ref g), none, some (.int lt), some (.int (nI (k + 1))), some (.int nx), some (.int (nI i))] [] (hpg h g γ) (0, 0) Q := by
  intro m
  induction m with
  | zero =>
    intro i γ nx hi hγ h7 hx
    have hin : i = n := by omega
    subst hin
    have e0 : γ 0 0 = nI i := (hγ 0 0 (by omega)).trans h0
    refine r_G_countSteps_51 S.1 S.f7.1 S.f7.2 S.f4.1 S.f4.2 (fun _ => ?_) (fun z => ?_) (fun z => ?_) (fun z => ?_) (fun z => ?_) (fun z => ?_)
    · rw [nI_s]
      exact H γ nx hγ (fun j hj => by rw [h7 j hj, if_pos hj]) hx
    all_goals (rw [hpg_get0, e0] at z; have := nle_nI z (by omega) (by omega); omega)
  | succ m ih =>
    intro i γ nx hi hγ h7 hx
    have e0 : γ 0 0 = nI n := (hγ 0 0 (by omega)).trans h0
    have hi' : i < n := by omega
    have ci : (nI i).toNatClampNeg = i := cl (by omega)
    have e7 : γ 7 i = nI (dst R n l k i) := by rw [h7 i hi', if_neg (by omega)]
    have dl := @dst_le R n l k i
    have db : dst R n l k i < 2 ^ 31 := by omega
    have q17 : (γ 7 i = nI 17) ↔ dst R n l k i = 17 := by rw [e7]; exact nI_eq db (by omega)
    have an : (γ 4 i &&& lt = 0) ↔ ¬ anyN (fun j => R i j && decide (dst R n l k j = k)) n = true := by
      rw [and_0, anyN_t]
      constructor
      · rintro q ⟨j, hj, q2⟩
        rw [Bool.and_eq_true] at q2
        refine q j (by omega) ⟨?_, (hlt j (by omega)).mpr ⟨hj, of_decide_eq_true q2.2⟩⟩
        rw [hγ 4 i (by omega)]
        exact (hR i j hi' (by omega)).mpr q2.1
      · rintro q j hj ⟨q1, q2⟩
        obtain ⟨w1, w2⟩ := (hlt j hj).mp q2
        rw [hγ 4 i (by omega)] at q1
        exact q ⟨j, w1, by rw [(hR i j hi' (by omega)).mp q1, decide_eq_true w2]; rfl⟩
    have stay : dst R n l (k + 1) i = dst R n l k i → wpE 37 51 [some (.ref g), none, some (.int lt), some (.int (nI (k + 1))), some (.int nx), some (.int (nI i + nI 1))] [] (hpg h g γ) (0, 0) Q := by
      intro e
      rw [nI_s]
      refine ih (i + 1) γ nx (by omega) hγ (fun j hj => ?_) (fun j hj => ?_)
      · rw [h7 j hj]
        by_cases q : j < i
        · rw [if_pos q, if_pos (by omega)]
        · by_cases q2 : j = i
          · subst q2; rw [if_neg q, if_pos (by omega), e]
          · rw [if_neg q, if_neg (by omega)]
      · rw [hx j hj]
        constructor
        · exact fun q => ⟨by omega, q.2⟩
        · rintro ⟨q1, q2⟩
          refine ⟨?_, q2⟩
          by_cases q3 : j = i
          · subst q3; rw [e] at q2; omega
          · omega
    refine r_G_countSteps_51 S.1 S.f7.1 S.f7.2 S.f4.1 S.f4.2 (fun z => ?_) (fun _ => inb (by omega)) (fun _ z => ?_) (fun _ _ => inb (by omega)) (fun _ z1 z2 => ?_) (fun _ z1 z2 => ?_)
    · rw [hpg_get0, e0] at z
      exact absurd z (nI_ge (by omega) (by omega))
    · rw [ci, hpg_get (by decide), q17] at z
      exact stay (by rw [dst_s, if_neg (fun q => z q.1)])
    · rw [ci, hpg_get (by decide), an] at z2
      exact stay (by rw [dst_s, if_neg (fun q => z2 q.2)])
    · rw [ci, hpg_get (by decide), an] at z2
      rw [ci, hpg_get (by decide), q17] at z1
      have e : dst R n l (k + 1) i = k + 1 := by rw [dst_s, if_pos ⟨z1, Classical.not_not.mp z2⟩]
      rw [ci, hpg_set (by decide), nI_s]
      refine ih (i + 1) _ _ (by omega) (fun j k' hj => ?_) (fun j hj => ?_) (fun j hj => ?_)
      · rw [up_n (by omega)]; exact hγ j k' hj
      · by_cases q2 : j = i
        · subst q2; rw [up_s, if_pos (by omega), e]
        · rw [up_n (by omega), h7 j hj]
          by_cases q : j < i
          · rw [if_pos q, if_pos (by omega)]
          · rw [if_neg q, if_neg (by omega)]
      · rw [bitP_put (by omega) hj, hx j hj]
        constructor
        · rintro (q | q)
          · exact ⟨by omega, q.2⟩
          · subst q; exact ⟨by omega, e⟩
        · rintro ⟨q1, q2⟩
          by_cases q3 : j = i
          · exact Or.inr q3
          · exact Or.inl ⟨by omega, q2⟩
theorem s_G_stepsOuter {h : sn_H} {g n l : Nat} {γ0 : sn_V} {R : Nat → Nat → Bool} {Q : Option Value → sn_H → Prop} (S : GrS h g) (hn : n ≤ 17) (hl : l < n) (h0 : γ0 0 0 = nI n)
    (hR : ∀ i j, i < n → j < 31 → (bitP (γ0 4 i) j ↔ R i j = true))
    (H : ∀ γ, (∀ j k, j ≠ 7 → γ j k = γ0 j k) → (∀ j, j < n → γ 7 j = nI (dst R n l (n - 1) j)) → Q none (hpg h g γ)) :
    ∀ (m k : Nat) (γ : sn_V) (lt : Int32), k + 1 + m = n → (∀ j k, j ≠ 7 → γ j k = γ0 j k) → (∀ j, j < n → γ 7 j = nI (dst R n l k j)) → (∀ j, j < 32 → (bitP lt j ↔ j < n ∧ dst R n l k j = k)) →
      wpE 37 37 [some (.ref g), none, some (.int lt), some (.int (nI (k + 1))), none, none] [] (hpg h g γ) (0, 0) Q := by
  intro m
  induction m with
  | zero =>
    intro k γ lt hk hγ h7 hx
    have e0 : γ 0 0 = nI n := (hγ 0 0 (by omega)).trans h0
    refine r_G_countSteps_37 S.1 (fun _ => ?_) (fun z => ?_)
    · exact H γ hγ (fun j hj => by rw [h7 j hj, show n - 1 = k by omega])
    · rw [hpg_get0, e0] at z; have := nle_nI z (by omega) (by omega); omega
  | succ m ih =>
    intro k γ lt hk hγ h7 hx
    have e0 : γ 0 0 = nI n := (hγ 0 0 (by omega)).trans h0
    refine r_G_countSteps_37 S.1 (fun z => ?_) (fun _ => ?_)
    · rw [hpg_get0, e0] at z
      exact absurd z (nI_ge (by omega) (by omega))
    · refine s_G_stepsInner S hn (by omega) hl h0 hR hx (fun γ' nx g1 g2 g3 => ?_) n 0 γ (nI 0) (by omega) hγ (fun j hj => ?_) (fun j hj => ?_)
      · exact ih (k + 1) γ' nx (by omega) g1 g2 g3
      · rw [if_neg (by omega)]; exact h7 j hj
      · exact ⟨fun z => absurd z (bitP_n0 hj), fun z => by omega⟩
theorem s_G_countSteps {h : sn_H} {g n l : Nat} {γ0 : sn_V} {R : Nat → Nat → Bool} {Q : Option Value → sn_H → Prop} (S : GrS h g) (hn : n ≤ 17) (hl : l < n) (h0 : γ0 0 0 = nI n)
    (hR : ∀ i j, i < n → j < 31 → (bitP (γ0 4 i) j ↔ R i j = true))
    (H : ∀ γ, (∀ j k, j ≠ 7 → γ j k = γ0 j k) → (∀ j, j < n → γ 7 j = nI (dst R n l (n - 1) j)) → Q none (hpg h g γ)) :
    wpE 37 0 [some (.ref g), some (.int (nI l)), none, none, none, none] [] (hpg h g γ0) (0, 0) Q := by
  refine r_G_countSteps_0 ?_
  suffices ∀ (m i : Nat) (γ : sn_V), i + m = n → (∀ j k, j ≠ 7 → γ j k = γ0 j k) → (∀ j, j < i → γ 7 j = nI 17) → wpE 37 2 [some (.ref g), some (.int (nI l)), some (.int (nI i)), none, none, none] [] (hpg h g γ) (0, 0) Q from this n 0 γ0 (by omega) (fun _ _ _ => rfl) (fun j hj => by omega)
  intro m
  induction m with
  | zero =>
    intro i γ hi hγ h7
    have hin : i = n := by omega
    subst hin
    have e0 : γ 0 0 = nI i := (hγ 0 0 (by omega)).trans h0
    refine r_G_countSteps_2 S.1 S.f7.1 S.f7.2 (fun _ => inb (by omega)) (fun _ => ?_) (fun z => by rw [hpg_get0, e0] at z; have := nle_nI z (by omega) (by omega); omega) (fun z => ?_)
    · rw [cl (by omega : l < 2 ^ 31), hpg_set (by decide)]
      refine s_G_stepsOuter S hn hl h0 hR H (i - 1) 0 _ _ (by omega) (fun j k hj => ?_) (fun j hj => ?_) (fun j hj => ?_)
      · rw [up_n (by omega)]; exact hγ j k hj
      · unfold dst
        by_cases q : j = l
        · subst q; rw [up_s, if_pos rfl]
        · rw [up_n (by omega), if_neg q]; exact h7 j hj
      · rw [bitP_s1 (by omega) hj]
        unfold dst
        constructor
        · intro q; subst q; exact ⟨hl, if_pos rfl⟩
        · rintro ⟨-, q⟩
          by_cases q2 : j = l
          · exact q2
          · rw [if_neg q2] at q; omega
    · rw [hpg_get0, e0] at z; have := nle_nI z (by omega) (by omega); omega
  | succ m ih =>
    intro i γ hi hγ h7
    have e0 : γ 0 0 = nI n := (hγ 0 0 (by omega)).trans h0
    refine r_G_countSteps_2 S.1 S.f7.1 S.f7.2 (fun _ => inb (by omega)) (fun z => ?_) (fun _ => inb (by omega)) (fun z => ?_)
    · rw [hpg_get0, e0] at z
      exact absurd z (nI_ge (by omega) (by omega))
    · rw [cl (by omega : i < 2 ^ 31), hpg_set (by decide), nI_s]
      refine ih (i + 1) _ (by omega) (fun j k hj => ?_) (fun j hj => ?_)
      · rw [up_n (by omega)]; exact hγ j k hj
      · by_cases q : j = i
        · subst q; rw [up_s]
        · rw [up_n (by omega)]; exact h7 j (by omega)
