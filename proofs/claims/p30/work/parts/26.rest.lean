/-! ===== the Graph's other methods ===== -/
def smN (f : Nat → Nat) : Nat → Nat → Nat
  | 0, _ => 0
  | m + 1, i => f i + smN f m (i + 1)
theorem smN_le {f : Nat → Nat} {c : Nat} (hf : ∀ i, f i ≤ c) : ∀ m i, smN f m i ≤ m * c := by
  intro m
  induction m with
  | zero => intro i; exact Nat.zero_le _
  | succ m ih =>
    intro i
    have a := hf i
    have b := ih (i + 1)
    rw [Nat.succ_mul]
    show f i + smN f m (i + 1) ≤ _
    omega
def b01 (b : Bool) : Nat := if b = true then 1 else 0
def pvt (O : Nat → Nat → Bool) (n i : Nat) : Prop := (∃ a, a < n ∧ O a i = true) ∧ ∃ b, b < n ∧ O i b = true
def pivB (O : Nat → Nat → Bool) (n : Nat) : Prop := pvt O n (n - 1) ∨ (∃ j, j < n ∧ O (n - 1) j = true ∧ pvt O n j) ∨ ∃ i, i < n - 1 ∧ pvt O n i ∧ O i (n - 1) = true
theorem n0_bit {x : Int32} : ¬ x = 0 ↔ ∃ k, k < 32 ∧ bitP x k := by
  constructor
  · intro z
    apply Classical.byContradiction
    intro q
    refine z (b_ext (fun i hi => ?_))
    rw [b_0]
    exact Bool.eq_false_iff.mpr (fun w => q ⟨i, hi, (bitP_bt hi).mpr w⟩)
  · rintro ⟨k, hk, q⟩ z
    rw [z] at q
    exact bitP_0 hk q
theorem s_G_hasPivot {h : sn_H} {g n : Nat} {γ : sn_V} {O : Nat → Nat → Bool} {Q : Option Value → sn_H → Prop} (S : GrS h g) (hn : n ≤ 17) (hn0 : 0 < n) (h0 : γ 0 0 = nI n)
    (hO : ∀ i j, i < n → j < 32 → (bitP (γ 5 i) j ↔ O i j = true)) (hOn : ∀ i j, O i j = true → j < n)
    (H1 : pivB O n → Q (some (.int (nI 1))) (hpg h g γ)) (H2 : ¬ pivB O n → Q (some (.int (nI 0))) (hpg h g γ)) :
    wpE 40 0 [some (.ref g), none, none, none, none, none] [] (hpg h g γ) (0, 0) Q := by
  have e1 : nI n - nI 1 = nI (n - 1) := by
    rw [show nI n = nI (n - 1) + nI 1 by rw [nI_s, show n - 1 + 1 = n by omega], Int32.add_sub_cancel]
  have eh : hG (hpg h g γ) g 0 = nI n := by rw [hpg_get0]; exact h0
  have cn : (nI (n - 1)).toNatClampNeg = n - 1 := cl (by omega)
  refine r_G_hasPivot_0 S.1 (fun _ => ?_) (fun z => ?_)
  · rw [eh, e1]
    suffices ∀ (m i : Nat) (x y : Int32), i + m = n → (∀ j, j < 32 → (bitP x j ↔ ∃ a, a < i ∧ O a j = true)) → (∀ j, j < 32 → (bitP y j ↔ j < i ∧ ∃ b, b < n ∧ O j b = true)) →
        wpE 40 20 [some (.ref g), some (.int (nI (n - 1))), some (.int x), some (.int y), some (.int (nI i)), none] [] (hpg h g γ) (0, 0) Q from
      this n 0 (nI 0) (nI 0) (by omega) (fun j hj => ⟨fun z => absurd z (bitP_n0 hj), fun ⟨a, z, _⟩ => by omega⟩) (fun j hj => ⟨fun z => absurd z (bitP_n0 hj), fun z => by omega⟩)
    intro m
    induction m with
    | zero =>
      intro i x y hi hx hy
      have hin : i = n := by omega
      subst hin
      have pv : ∀ j, j < 32 → (bitP (x &&& y) j ↔ pvt O i j) := by
        intro j hj
        rw [bitP_and hj, hx j hj, hy j hj]
        unfold pvt
        constructor
        · exact fun q => ⟨q.1, q.2.2⟩
        · rintro ⟨⟨a, ha, q⟩, q2⟩
          exact ⟨⟨a, ha, q⟩, hOn a j q, q2⟩
      have bad : ∀ {P : Prop}, ¬ (hG (hpg h g γ) g 0) ≤ nI i → P := by
        intro P z
        rw [eh] at z; have := nle_nI z (by omega) (by omega); omega
      have nz : (γ 5 (i - 1) &&& (x &&& y) = 0) ↔ ¬ ∃ j, j < i ∧ O (i - 1) j = true ∧ pvt O i j := by
        rw [and_0]
        constructor
        · rintro q ⟨j, hj, q1, q2⟩
          exact q j (by omega) ⟨(hO (i - 1) j (by omega) (by omega)).mpr q1, (pv j (by omega)).mpr q2⟩
        · rintro q j hj ⟨q1, q2⟩
          have w := (hO (i - 1) j (by omega) hj).mp q1
          exact q ⟨j, hOn _ _ w, w, (pv j hj).mp q2⟩
      refine r_G_hasPivot_20 S.1 S.f5.1 S.f5.2 (fun _ _ => inb (by omega)) (fun _ z1 z2 => ?_) (fun _ _ z => ?_) (fun _ z => ?_) (fun z => bad z) (fun z => bad z) (fun z => bad z)
      · rw [cn, hpg_get (by decide), nz] at z2
        have z1' : ¬ pvt O i (i - 1) := fun q => z1 ((pv (i - 1) (by omega)).mpr q)
        suffices ∀ (m k : Nat), k + m = i - 1 → (∀ u, u < k → ¬ (pvt O i u ∧ O u (i - 1) = true)) → wpE 40 93 [some (.ref g), some (.int (nI (i - 1))), none, none, some (.int (x &&& y)), some (.int (nI k))] [] (hpg h g γ) (0, 0) Q from
          this (i - 1) 0 (Nat.zero_add _) (fun u hu => absurd hu (Nat.not_lt_zero u))
        intro m
        induction m with
        | zero =>
          intro k hk hu
          have hki : k = i - 1 := by omega
          subst hki
          refine r_G_hasPivot_93 S.1 S.f5.1 S.f5.2 (fun _ => H2 ?_) (fun z => absurd (Int32.le_refl _) z) (fun z => absurd (Int32.le_refl _) z) (fun z => absurd (Int32.le_refl _) z) (fun z => absurd (Int32.le_refl _) z)
          rintro (q | q | ⟨u, q1, q2, q3⟩)
          · exact z1' q
          · exact z2 q
          · exact hu u q1 ⟨q2, q3⟩
        | succ m ih =>
          intro k hk hu
          have ck : (nI k).toNatClampNeg = k := cl (by omega)
          have go : ¬ (pvt O i k ∧ O k (i - 1) = true) → wpE 40 93 [some (.ref g), some (.int (nI (i - 1))), none, none, some (.int (x &&& y)), some (.int (nI k + nI 1))] [] (hpg h g γ) (0, 0) Q := by
            intro q
            rw [nI_s]
            refine ih (k + 1) (by omega) (fun u hu' => ?_)
            by_cases w : u = k
            · rw [w]; exact q
            · exact hu u (by omega)
          refine r_G_hasPivot_93 S.1 S.f5.1 S.f5.2 (fun z => absurd z (nI_ge (by omega) (by omega))) (fun _ z => ?_) (fun _ _ => inb (by omega)) (fun _ _ z => ?_) (fun _ za zb => ?_)
          · exact go (fun q => z ((pv k (by omega)).mpr q.1))
          · rw [ck, hpg_get (by decide)] at z
            exact go (fun q => z ((hO k (i - 1) (by omega) (by omega)).mpr q.2))
          · rw [ck, hpg_get (by decide)] at zb
            exact H1 (Or.inr (Or.inr ⟨k, by omega, (pv k (by omega)).mp za, (hO k (i - 1) (by omega) (by omega)).mp zb⟩))
      · rw [cn, hpg_get (by decide), nz] at z
        exact H1 (Or.inr (Or.inl (Classical.not_not.mp z)))
      · exact H1 (Or.inl ((pv (i - 1) (by omega)).mp z))
    | succ m ih =>
      intro i x y hi hx hy
      have ci : (nI i).toNatClampNeg = i := cl (by omega)
      have bad : ∀ {P : Prop}, (hG (hpg h g γ) g 0) ≤ nI i → P := by
        intro P z
        rw [eh] at z
        exact absurd z (nI_ge (by omega) (by omega))
      have ox : ∀ j, j < 32 → (bitP (x ||| γ 5 i) j ↔ ∃ a, a < i + 1 ∧ O a j = true) := by
        intro j hj
        rw [bitP_or hj, hx j hj, hO i j (by omega) hj]
        constructor
        · rintro (⟨a, q1, q2⟩ | q)
          · exact ⟨a, by omega, q2⟩
          · exact ⟨i, by omega, q⟩
        · rintro ⟨a, q1, q2⟩
          by_cases w : a = i
          · rw [w] at q2; exact Or.inr q2
          · exact Or.inl ⟨a, by omega, q2⟩
      have nz : (¬ γ 5 i = 0) ↔ ∃ b, b < n ∧ O i b = true := by
        rw [n0_bit]
        constructor
        · rintro ⟨k, hk, q⟩
          have w := (hO i k (by omega) hk).mp q
          exact ⟨k, hOn _ _ w, w⟩
        · rintro ⟨k, hk, q⟩
          exact ⟨k, by omega, (hO i k (by omega) (by omega)).mpr q⟩
      refine r_G_hasPivot_20 S.1 S.f5.1 S.f5.2 (fun z => bad z) (fun z => bad z) (fun z => bad z) (fun z => bad z) (fun _ => inb (by omega)) (fun _ z => ?_) (fun _ z => ?_)
      · rw [ci, hpg_get (by decide)] at z ⊢
        rw [nI_s]
        refine ih (i + 1) _ _ (by omega) ox (fun j hj => ?_)
        rw [hy j hj]
        constructor
        · exact fun q => ⟨by omega, q.2⟩
        · rintro ⟨q1, q2⟩
          refine ⟨?_, q2⟩
          by_cases w : j = i
          · rw [w] at q2; exact absurd z (nz.mpr q2)
          · omega
      · rw [ci, hpg_get (by decide)] at z ⊢
        rw [nI_s]
        refine ih (i + 1) _ _ (by omega) ox (fun j hj => ?_)
        rw [bitP_put (by omega) hj, hy j hj]
        constructor
        · rintro (q | q)
          · exact ⟨by omega, q.2⟩
          · rw [q]; exact ⟨by omega, nz.mp z⟩
        · rintro ⟨q1, q2⟩
          by_cases w : j = i
          · exact Or.inr w
          · exact Or.inl ⟨by omega, q2⟩
  · rw [eh, e1, ← nI_0] at z
    exact absurd (nI_le (by omega) (by omega)) z
def skN (O : Nat → Nat → Bool) (n a : Nat) : Nat := smN (fun b => b01 (O a b && O b a)) (n - (a + 1)) (a + 1)
theorem s_G_countSkewPairs {h : sn_H} {g n : Nat} {γ : sn_V} {O : Nat → Nat → Bool} {Q : Option Value → sn_H → Prop} (S : GrS h g) (hn : n ≤ 17) (h0 : γ 0 0 = nI n)
    (hO : ∀ i j, i < n → j < 32 → (bitP (γ 5 i) j ↔ O i j = true))
    (H : Q (some (.int (nI (smN (skN O n) n 0)))) (hpg h g γ)) :
    wpE 79 0 [some (.ref g), none, none, none] [] (hpg h g γ) (0, 0) Q := by
  have eh : hG (hpg h g γ) g 0 = nI n := by rw [hpg_get0]; exact h0
  refine r_G_countSkewPairs_0 ?_
  generalize hT : smN (skN O n) n 0 = T at H
  suffices ∀ (m a acc : Nat), a + m = n → acc + smN (skN O n) m a = T → wpE 79 4 [some (.ref g), some (.int (nI acc)), some (.int (nI a)), none] [] (hpg h g γ) (0, 0) Q from this n 0 0 (Nat.zero_add _) ((Nat.zero_add _).trans hT)
  intro m
  induction m with
  | zero =>
    intro a acc ha hacc
    refine r_G_countSkewPairs_4 S.1 (fun _ => ?_) (fun z => ?_)
    · have : acc = T := hacc
      rw [this]; exact H
    · rw [eh] at z; have := nle_nI z (by omega) (by omega); omega
  | succ m ih =>
    intro a acc ha hacc
    refine r_G_countSkewPairs_4 S.1 (fun z => ?_) (fun _ => ?_)
    · rw [eh] at z; exact absurd z (nI_ge (by omega) (by omega))
    · rw [nI_s]
      have hacc' : acc + (skN O n a + smN (skN O n) m (a + 1)) = T := hacc
      suffices ∀ (m' b acc' : Nat), b + m' = n → acc' + smN (fun b => b01 (O a b && O b a)) m' b + smN (skN O n) m (a + 1) = T → wpE 79 16 [some (.ref g), some (.int (nI acc')), some (.int (nI a)), some (.int (nI b))] [] (hpg h g γ) (0, 0) Q from
        this (n - (a + 1)) (a + 1) acc (by omega) (by rw [Nat.add_assoc]; exact hacc')
      intro m'
      induction m' with
      | zero =>
        intro b acc' hb hacc2
        refine r_G_countSkewPairs_16 S.1 S.f5.1 S.f5.2 (fun _ => ?_) (fun z => ?_) (fun z => ?_) (fun z => ?_) (fun z => ?_) (fun z => ?_)
        · rw [nI_s]
          exact ih (a + 1) acc' (by omega) hacc2
        all_goals (rw [eh] at z; have := nle_nI z (by omega) (by omega); omega)
      | succ m' ih' =>
        intro b acc' hb hacc2
        have ca : (nI a).toNatClampNeg = a := cl (by omega)
        have cb : (nI b).toNatClampNeg = b := cl (by omega)
        have hacc3 : acc' + (b01 (O a b && O b a) + smN (fun b => b01 (O a b && O b a)) m' (b + 1)) + smN (skN O n) m (a + 1) = T := hacc2
        refine r_G_countSkewPairs_16 S.1 S.f5.1 S.f5.2 (fun z => ?_) (fun _ => inb (by omega)) (fun _ z => ?_) (fun _ _ => inb (by omega)) (fun _ z1 z2 => ?_) (fun _ z1 z2 => ?_)
        · rw [eh] at z; exact absurd z (nI_ge (by omega) (by omega))
        · rw [ca, hpg_get (by decide)] at z
          have w : O a b = false := Bool.eq_false_iff.mpr (fun q => z ((hO a b (by omega) (by omega)).mpr q))
          rw [nI_s]
          refine ih' (b + 1) acc' (by omega) ?_
          rw [w] at hacc3
          rw [← hacc3]
          show _ = acc' + (0 + _) + _
          rw [Nat.zero_add]
        · rw [cb, hpg_get (by decide)] at z2
          have w : O b a = false := Bool.eq_false_iff.mpr (fun q => z2 ((hO b a (by omega) (by omega)).mpr q))
          rw [nI_s]
          refine ih' (b + 1) acc' (by omega) ?_
          rw [w, Bool.and_false] at hacc3
          rw [← hacc3]
          show _ = acc' + (0 + _) + _
          rw [Nat.zero_add]
        · rw [ca, hpg_get (by decide)] at z1
          rw [cb, hpg_get (by decide)] at z2
          rw [nI_s, nI_s]
          refine ih' (b + 1) (acc' + 1) (by omega) ?_
          rw [(hO a b (by omega) (by omega)).mp z1, (hO b a (by omega) (by omega)).mp z2] at hacc3
          rw [← hacc3, Nat.add_assoc acc' 1]
          rfl
theorem s_G_toldAt {h : sn_H} {g i q : Nat} {γ : sn_V} {Q : Option Value → sn_H → Prop} (S : GrS h g) (hi : i < 2 ^ 31) (hq : q ≤ 17) (h9 : γ 0 9 = nI q)
    (H1 : i < q → Q (some (.int (γ 8 i))) (hpg h g γ)) (H2 : ¬ i < q → Q (some (.int (-(nI 20006)))) (hpg h g γ)) : wpE 67 0 [some (.ref g), some (.int (nI i))] [] (hpg h g γ) (0, 0) Q := by
  have eh : hG (hpg h g γ) g 9 = nI q := by rw [hpg_get0]; exact h9
  have nn : ¬ nI i < 0 := by rw [← nI_0]; exact Int32.not_lt.mpr (nI_le (by omega) hi)
  refine r_G_toldAt_0 S.1 S.f8.1 S.f8.2 (fun z => absurd z nn) (fun _ z => ?_) (fun _ z => ?_) (fun _ z => ?_)
  · rw [eh, nI_leI (by omega) hi] at z
    exact H2 (by omega)
  · rw [eh, nI_leI (by omega) hi] at z
    exact inb (by omega)
  · rw [eh, nI_leI (by omega) hi] at z
    rw [cl hi, hpg_get (by decide)]
    exact H1 (by omega)
