/-! ===== the Model: ringOf, ringsMany, skews, isHeld, isHeldFor ===== -/
theorem nx_ne {R : Nat → Nat → Bool} {a l : Nat} (ha : a ≠ l) (hd : dst R 17 l 16 a ≠ 17) : nxN R (dst R 17 l 16) a 17 ≠ 17 := by
  intro q
  have n0 : dst R 17 l 16 a ≠ 0 := fun z => ha (dst_0 z)
  have v := (dst_val (R := R) (N := 17) (l := l) 16 a hd).1
  obtain ⟨j, h1, h2, h3⟩ := dst_T1 (R := R) (N := 17) (l := l) (M := 16) (a := a) (d := dst R 17 l 16 a - 1) (by omega) (by omega) (Nat.le_refl _)
  have := (@nxN_spec R (dst R 17 l 16) a 17 (Nat.le_refl _)).1 q j h1 h2
  omega
def rgV (R : Nat → Nat → Bool) (c i : Nat) : Int32 :=
  if nxN R (dst R 17 16 16) 16 17 = 17 then -(nI 20006) else if anyN (fun t => decide (wkM R (dst R 17 16 16) (t + 1) = 16)) i = true then -(nI 20006) else nI (mnN c (wkM R (dst R 17 16 16) i))
theorem s_M_ringOf {h : sn_H} {m c w i : Nat} {μ0 : sn_V} {Q : Option Value → sn_H → Prop} (S : MoS h m) (hc : c < 2 ^ 30) (h0 : μ0 1 0 = nI c) (hw : w < 8) (ho : μ0 1 (36 + 40 * w + 39) = nI 1) (hi : 1 ≤ i) (hi2 : i < 2 ^ 31)
    (H : ∀ μ, (∀ j k, j ≠ 5 → j ≠ 6 → ¬ (j = 0 ∧ k = 6) → μ j k = μ0 j k) → Q (some (.int (rgV (mR μ0 c w true (nI 7)) c i))) (mpt h m μ)) :
    wpE 145 0 [some (.ref m), some (.int (nI w)), some (.int (nI i)), none, none] [] (mpt h m μ0) (0, 0) Q := by
  have n0 : ¬ nI w < nI 0 := fun z => by rw [nI_ltI (by omega) (by omega)] at z; omega
  have n7 : ¬ nI 7 < nI w := fun z => by rw [nI_ltI (by omega) (by omega)] at z; omega
  have l1 : nI 1 ≤ nI i := nI_le hi hi2
  have eo : hG (mpt h m μ0) (m + 1) ((nI 36 + (nI 40 * nI w)) + nI 39).toNatClampNeg = nI 1 := by rw [sl_ix, cl (by omega), mpt_get (by decide)]; exact ho
  refine r_M_ringOf_0 S.1 S.f1.1 S.f1.2 (fun z => absurd z n0) (fun _ z => absurd z n7) (fun _ _ => by rw [sl_ix]; exact inb (by omega)) (fun _ _ z => absurd eo z) (fun _ _ _ _ => ?_) (fun _ _ _ z => absurd l1 z)
  refine s_M_hasRing S hc h0 hw (fun μ g1 g2 g3 g4 => ?_)
  have H := H μ g1
  have ec : μ 1 0 = nI c := by rw [g1 1 0 (by omega) (by omega) (by omega)]; exact h0
  revert g3 g4 H
  generalize mR μ0 c w true (nI 7) = R
  intro g3 g4 H
  unfold rgV at H
  by_cases q : nxN R (dst R 17 16 16) 16 17 = 17
  · rw [if_pos q] at H
    rw [decide_eq_false (fun z => z q)]
    exact r_M_ringOf_26 (fun z => absurd bi_f z) (fun _ => H)
  · rw [if_neg q] at H
    rw [decide_eq_true q]
    refine r_M_ringOf_26 (fun _ => ?_) (fun z => absurd z bi_t)
    suffices ∀ (r t : Nat), t + r = i → (∀ u, u < t → wkM R (dst R 17 16 16) (u + 1) ≠ 16) → wkM R (dst R 17 16 16) t < 17 → (t = 0 ∨ dst R 17 16 16 (wkM R (dst R 17 16 16) t) ≠ 17) →
        wpE 145 39 [some (.ref m), none, some (.int (nI i)), some (.int (nI (wkM R (dst R 17 16 16) t))), some (.int (nI t))] [] (mpt h m μ) (0, 0) Q from
      this i 0 (Nat.zero_add _) (fun u hu => absurd hu (Nat.not_lt_zero u)) (by show 16 < 17; omega) (Or.inl rfl)
    intro r
    induction r with
    | zero =>
      intro t ht h1 h2 h3
      have e : t = i := ht
      subst e
      have nf : ¬ anyN (fun t => decide (wkM R (dst R 17 16 16) (t + 1) = 16)) t = true := fun z => by
        obtain ⟨u, a, b⟩ := anyN_t.mp z
        exact h1 u a (of_decide_eq_true b)
      rw [if_neg nf] at H
      refine r_M_ringOf_39 S.1 (fun _ => ?_) (fun z => absurd (Int32.le_refl _) z)
      exact s_M_numberOf (mpt_A S) hc (by omega) ec (r_M_ringOf_72 H)
    | succ r ih =>
      intro t ht h1 h2 h3
      refine r_M_ringOf_39 S.1 (fun z => absurd z (nI_ge (by omega) (by omega))) (fun _ => ?_)
      have nn : nxN R (dst R 17 16 16) (wkM R (dst R 17 16 16) t) 17 ≠ 17 := by
        rcases Nat.eq_zero_or_pos t with z | z
        · rw [z]; exact q
        · refine nx_ne ?_ (by omega)
          have := h1 (t - 1) (by omega)
          rw [show t - 1 + 1 = t by omega] at this
          exact this
      have lt : nxN R (dst R 17 16 16) (wkM R (dst R 17 16 16) t) 17 < 17 := by rcases @nxN_lt R (dst R 17 16 16) (wkM R (dst R 17 16 16) t) 17 with z | z <;> omega
      refine s_M_nextNode (R := R) (D := dst R 17 16 16) (mpt_A S) h2 (fun j hj => g3 _ j h2 hj) g4 (fun x => dst_17 (by omega)) ?_
      rw [fe_n nn]
      refine r_M_ringOf_50 (fun z => ?_) (fun z => ?_)
      · have z' : ¬ wkM R (dst R 17 16 16) (t + 1) = 16 := fun y => z (congrArg nI y)
        rw [nI_s]
        exact ih (t + 1) (by omega) (lt_s h1 z') lt (Or.inr (nxN_D 17 nn).2)
      · have z' : wkM R (dst R 17 16 16) (t + 1) = 16 := (nI_eq (a := nxN R (dst R 17 16 16) (wkM R (dst R 17 16 16) t) 17) (by omega) (by omega)).mp z
        have nf : anyN (fun t => decide (wkM R (dst R 17 16 16) (t + 1) = 16)) i = true := anyN_t.mpr ⟨t, by omega, decide_eq_true z'⟩
        rw [if_pos nf] at H
        exact H
theorem smN_last {f : Nat → Nat} : ∀ m i, smN f (m + 1) i = smN f m i + f (i + m) := by
  intro m
  induction m with
  | zero => intro i; show f i + 0 = 0 + f i; omega
  | succ m ih =>
    intro i
    show f i + smN f (m + 1) (i + 1) = f i + smN f m (i + 1) + f (i + (m + 1))
    rw [ih (i + 1), show i + 1 + m = i + (m + 1) by omega]
    omega
def rmF (R : Nat → Nat → Bool) (k : Nat) : Nat := b01 (decide (nxN R (dst R 17 k 16) k 17 ≠ 17))
theorem s_M_ringsMany {h : sn_H} {m c : Nat} {μ0 : sn_V} {Q : Option Value → sn_H → Prop} (S : MoS h m) (hc : c < 2 ^ 30) (h0 : μ0 1 0 = nI c)
    (H : ∀ μ, (∀ j k, j ≠ 5 → j ≠ 6 → ¬ (j = 0 ∧ k = 6) → μ j k = μ0 j k) → Q (some (.int (nI (smN (rmF (mR μ0 c 0 false (nI 7))) (min 16 c) 0)))) (mpt h m μ)) :
    wpE 147 0 [some (.ref m), none, none] [] (mpt h m μ0) (0, 0) Q := by
  refine r_M_ringsMany_0 S.1 (s_M_findCommits S hc h0 (fun μ1 g1 g2 g3 => ?_))
  have hR : ∀ a j, a < 17 → j < 17 → (bitP (μ1 5 a) j ↔ mR μ0 c 0 false (nI 7) a j = true) := fun a j ha hj => by
    rw [g3 a j ha (by omega)]
    exact ⟨fun q => q.2, fun q => ⟨hj, q⟩⟩
  revert hR H
  generalize mR μ0 c 0 false (nI 7) = R
  intro H hR
  refine r_M_ringsMany_6 ?_
  suffices ∀ (r k : Nat) (μ : sn_V), k + r = min 16 c → (∀ j k, j ≠ 6 → μ j k = μ1 j k) → wpE 147 10 [some (.ref m), some (.int (nI (smN (rmF R) k 0))), some (.int (nI k))] [] (mpt h m μ) (0, 0) Q from
    this (min 16 c) 0 μ1 (Nat.zero_add _) (fun _ _ _ => rfl)
  intro r
  induction r with
  | zero =>
    intro k μ hk hμ
    have e : k = min 16 c := hk
    refine r_M_ringsMany_10 S.1 (s_M_keptMany (mpt_A S) hc (by rw [hμ 1 0 (by omega), g1 1 0 (by omega) (by omega)]; exact h0) ?_)
    rw [e]
    exact r_M_ringsMany_15 S.1 (fun _ => H μ (fun j k a b d => by rw [hμ j k b]; exact g1 j k a d)) (fun z => absurd (Int32.le_refl _) z)
  | succ r ih =>
    intro k μ hk hμ
    refine r_M_ringsMany_10 S.1 (s_M_keptMany (mpt_A S) hc (by rw [hμ 1 0 (by omega), g1 1 0 (by omega) (by omega)]; exact h0) ?_)
    refine r_M_ringsMany_15 S.1 (fun z => absurd z (nI_ge (by omega) (by omega))) (fun _ => ?_)
    refine s_M_findFar (l := k) (R := R) S (by omega) (fun a j ha hj => by rw [hμ 5 a (by omega)]; exact hR a j ha hj) (fun μ2 f1 f2 => ?_)
    refine r_M_ringsMany_23 S.1 (s_M_nextNode (a := k) (R := R) (D := dst R 17 k 16) (mpt_A S) (by omega) (fun j hj => by rw [f1 5 k (by omega), hμ 5 k (by omega)]; exact hR k j (by omega) hj) f2 (fun x => dst_17 (by omega)) ?_)
    have n18 : nxN R (dst R 17 k 16) k 17 < 18 := by rcases @nxN_lt R (dst R 17 k 16) k 17 with z | z <;> omega
    have w := ih (k + 1) μ2 (by omega) (fun j k hj => by rw [f1 j k hj]; exact hμ j k hj)
    rw [smN_last, Nat.zero_add] at w
    refine r_M_ringsMany_29 (fun z => ?_) (fun z => ?_)
    · rw [fe_17 _ n18] at z
      have e1 : rmF R k = 1 := by unfold rmF; rw [decide_eq_true z]; rfl
      rw [e1] at w
      rw [nI_s, nI_s]
      exact w
    · rw [fe_17 _ n18] at z
      have e1 : rmF R k = 0 := by unfold rmF; rw [decide_eq_false (fun y => y z)]; rfl
      rw [e1] at w
      rw [nI_s, nI_add]
      exact w
theorem s_M_skews {h : sn_H} {m c : Nat} {μ0 : sn_V} {Q : Option Value → sn_H → Prop} (S : MoS h m) (hc : c < 2 ^ 30) (h0 : μ0 1 0 = nI c)
    (H : ∀ μ, (∀ j k, j ≠ 5 → j ≠ 6 → ¬ (j = 0 ∧ k = 6) → μ j k = μ0 j k) → Q (some (.int (nI (smN (skN (mR μ0 c 0 false (nI 4)) (min 16 c)) (min 16 c) 0)))) (mpt h m μ)) :
    wpE 152 0 [some (.ref m), none, none, none] [] (mpt h m μ0) (0, 0) Q := by
  refine r_M_skews_0 S.1 (s_M_findCommits S hc h0 (fun μ g1 g2 g3 => ?_))
  have H := H μ (fun j k a _ d => g1 j k a d)
  have hR : ∀ a j, a < 17 → j < 17 → (bitP (μ 5 a) j ↔ mR μ0 c 0 false (nI 4) a j = true) := fun a j ha hj => by
    rw [g3 a j ha (by omega)]
    exact ⟨fun q => q.2, fun q => ⟨hj, q⟩⟩
  revert hR H
  generalize mR μ0 c 0 false (nI 4) = R
  intro H hR
  have ec : μ 1 0 = nI c := by rw [g1 1 0 (by omega) (by omega)]; exact h0
  have hn : min 16 c ≤ 16 := Nat.min_le_left _ _
  generalize hN : min 16 c = n at H hn
  have kept : ∀ {Q' : Option Value → sn_H → Prop}, Q' (some (.int (nI n))) (mpt h m μ) → wpE 121 0 [some (.ref m)] [] (mpt h m μ) (0, 0) Q' := fun hq => s_M_keptMany (mpt_A S) hc ec (by rw [hN]; exact hq)
  refine r_M_skews_5 ?_
  -- the inner loop
  have inner : ∀ (a s : Nat), a < n → wpE 152 9 [some (.ref m), some (.int (nI (s + skN R n a))), some (.int (nI (a + 1))), none] [] (mpt h m μ) (0, 0) Q →
      ∀ (r k : Nat), a + 1 + k + r = n → wpE 152 21 [some (.ref m), some (.int (nI (s + smN (fun b => b01 (R a b && R b a)) k (a + 1)))), some (.int (nI a)), some (.int (nI (a + 1 + k)))] [] (mpt h m μ) (0, 0) Q := by
    intro a s ha K r
    induction r with
    | zero =>
      intro k hk
      have e : a + 1 + k = n := hk
      refine r_M_skews_21 S.1 (kept ?_)
      have nn : ∀ {P : Prop}, ¬ nI n ≤ nI (a + 1 + k) → P := fun z => absurd (by rw [e]; exact Int32.le_refl _) z
      refine r_M_skews_26 S.1 S.f5.1 S.f5.2 (fun _ => ?_) nn nn nn nn nn
      rw [nI_s]
      have e2 : skN R n a = smN (fun b => b01 (R a b && R b a)) k (a + 1) := by unfold skN; rw [show n - (a + 1) = k by omega]
      rw [← e2]
      exact K
    | succ r ih =>
      intro k hk
      refine r_M_skews_21 S.1 (kept ?_)
      have ga : hG (mpt h m μ) (m + 5) (nI a).toNatClampNeg = μ 5 a := by rw [cl (by omega), mpt_get (by decide)]
      have gb : hG (mpt h m μ) (m + 5) (nI (a + 1 + k)).toNatClampNeg = μ 5 (a + 1 + k) := by rw [cl (by omega), mpt_get (by decide)]
      have w := ih (k + 1) (by omega)
      rw [smN_last] at w
      have r0 : (R a (a + 1 + k) && R (a + 1 + k) a) = false → wpE 152 21 [some (.ref m), some (.int (nI (s + smN (fun b => b01 (R a b && R b a)) k (a + 1)) + nI 0)), some (.int (nI a)), some (.int (nI (a + 1 + k) + nI 1))] [] (mpt h m μ) (0, 0) Q := fun e => by
        rw [e] at w
        rw [nI_add, nI_s]
        exact w
      refine r_M_skews_26 S.1 S.f5.1 S.f5.2 (fun z => absurd z (nI_ge (by omega) (by omega))) (fun _ => inb (by omega)) (fun _ z => ?_) (fun _ _ => inb (by omega)) (fun _ z y => ?_) (fun _ z y => ?_)
      · rw [ga] at z
        have : R a (a + 1 + k) = false := Bool.eq_false_iff.mpr (fun q => z ((hR a _ (by omega) (by omega)).mpr q))
        exact r0 (by rw [this]; rfl)
      · rw [gb] at y
        have : R (a + 1 + k) a = false := Bool.eq_false_iff.mpr (fun q => y ((hR _ a (by omega) (by omega)).mpr q))
        exact r0 (by rw [this, Bool.and_false])
      · rw [ga] at z
        rw [gb] at y
        have e1 := (hR a _ (by omega) (by omega)).mp z
        have e2 := (hR _ a (by omega) (by omega)).mp y
        rw [e1, e2] at w
        rw [nI_s, nI_s]
        exact w
  suffices ∀ (r a : Nat), a + r = n → wpE 152 9 [some (.ref m), some (.int (nI (smN (skN R n) a 0))), some (.int (nI a)), none] [] (mpt h m μ) (0, 0) Q from this n 0 (Nat.zero_add _)
  intro r
  induction r with
  | zero =>
    intro a ha
    have e : a = n := ha
    refine r_M_skews_9 S.1 (kept ?_)
    rw [e]
    exact r_M_skews_14 (fun _ => H) (fun z => absurd (Int32.le_refl _) z)
  | succ r ih =>
    intro a ha
    refine r_M_skews_9 S.1 (kept ?_)
    refine r_M_skews_14 (fun z => absurd z (nI_ge (by omega) (by omega))) (fun _ => ?_)
    rw [nI_s]
    have w := ih (a + 1) (by omega)
    rw [smN_last, Nat.zero_add] at w
    exact inner a (smN (skN R n) a 0) (by omega) w (n - (a + 1)) 0 (by omega)
theorem ct_ix (q : Nat) : nI 6 + (nI 2 * nI q) = nI (6 + 2 * q) := by rw [pk_mul, nI_add]
theorem ct_ix1 (q : Nat) : (nI 6 + (nI 2 * nI q)) + nI 1 = nI (7 + 2 * q) := by rw [ct_ix, nI_add]; exact congrArg nI (by omega)
theorem add_n0 (x : Int32) : x + nI 0 = x := by rw [nI_0, Int32.add_zero]
theorem s_M_isHeld {h : sn_H} {m q : Nat} {μ : sn_V} {Q : Option Value → sn_H → Prop} (S : MoS h m) (hq : q < 3)
    (H : Q (some (.int (bi (decide (¬ sumK (μ 1 (6 + 2 * q)) (fun k => μ 1 (12 + k)) 12 < μ 1 (7 + 2 * q)))))) (mpt h m μ)) :
    wpE 154 0 [some (.ref m), some (.int (nI q)), none, none] [] (mpt h m μ) (0, 0) Q := by
  have G : ∀ i, i < 596 → hG (mpt h m μ) (m + 1) (nI i).toNatClampNeg = μ 1 i := fun i hi => by rw [cl (by omega), mpt_get (by decide)]
  refine r_M_isHeld_0 ?_
  suffices ∀ (r k : Nat), k + r = 12 → wpE 154 4 [some (.ref m), some (.int (nI q)), some (.int (sumK (μ 1 (6 + 2 * q)) (fun k => μ 1 (12 + k)) k)), some (.int (nI k))] [] (mpt h m μ) (0, 0) Q from this 12 0 (Nat.zero_add _)
  intro r
  induction r with
  | zero =>
    intro k hk
    have e : k = 12 := hk
    subst e
    have nn : ∀ {P : Prop}, ¬ nI 12 ≤ nI 12 → P := fun z => absurd (Int32.le_refl _) z
    refine r_M_isHeld_4 S.1 S.f1.1 S.f1.2 (fun _ => by rw [ct_ix1]; exact inb (by omega)) (fun _ z => ?_) (fun _ z => ?_) nn nn nn nn
    · rw [ct_ix1, G _ (by omega)] at z
      rw [decide_eq_false (fun y => y z)] at H
      exact H
    · rw [ct_ix1, G _ (by omega)] at z
      rw [decide_eq_true z] at H
      exact H
  | succ r ih =>
    intro k hk
    have w := ih (k + 1) (by omega)
    rw [sumK] at w
    have nb : ∀ {P : Prop}, nI 12 ≤ nI k → P := fun z => absurd z (nI_ge (by omega) (by omega))
    refine r_M_isHeld_4 S.1 S.f1.1 S.f1.2 nb nb nb (fun _ => by rw [ct_ix]; exact inb (by omega)) (fun _ z => ?_) (fun _ _ => by rw [nI_add]; exact inb (by omega)) (fun _ z => ?_)
    · rw [ct_ix, G _ (by omega)] at z
      rw [if_neg z] at w
      rw [add_n0, nI_s]
      exact w
    · rw [ct_ix, G _ (by omega)] at z
      rw [if_pos z] at w
      rw [nI_add 12 k, G _ (by omega), nI_s]
      exact w
theorem s_M_isHeldFor {h : sn_H} {m q w : Nat} {μ : sn_V} {Q : Option Value → sn_H → Prop} (S : MoS h m) (hq : q < 3) (hw : w < 8)
    (H : Q (some (.int (bi (decide (¬ sumK (μ 1 (6 + 2 * q)) (fun k => if bitP (μ 1 (36 + 40 * w + 2)) k then μ 1 (36 + 40 * w + 27 + k) else μ 1 (36 + 40 * w + 15 + k)) 12 < μ 1 (7 + 2 * q)))))) (mpt h m μ)) :
    wpE 156 0 [some (.ref m), some (.int (nI w)), some (.int (nI q)), none, none, none] [] (mpt h m μ) (0, 0) Q := by
  have G : ∀ i, i < 596 → hG (mpt h m μ) (m + 1) (nI i).toNatClampNeg = μ 1 i := fun i hi => by rw [cl (by omega), mpt_get (by decide)]
  refine r_M_isHeldFor_0 ?_
  revert H
  generalize hf : (fun k => if bitP (μ 1 (36 + 40 * w + 2)) k then μ 1 (36 + 40 * w + 27 + k) else μ 1 (36 + 40 * w + 15 + k)) = f
  intro H
  suffices ∀ (r k : Nat), k + r = 12 → wpE 156 5 [some (.ref m), some (.int (nI w)), some (.int (nI q)), some (.int (sumK (μ 1 (6 + 2 * q)) f k)), some (.int (nI k)), none] [] (mpt h m μ) (0, 0) Q from this 12 0 (Nat.zero_add _)
  intro r
  induction r with
  | zero =>
    intro k hk
    have e : k = 12 := hk
    subst e
    have nn : ∀ {P : Prop}, ¬ nI 12 ≤ nI 12 → P := fun z => absurd (Int32.le_refl _) z
    refine r_M_isHeldFor_5 S.1 S.f1.1 S.f1.2 (fun _ => by rw [ct_ix1]; exact inb (by omega)) (fun _ z => ?_) (fun _ z => ?_) nn nn nn nn nn nn nn nn nn
    · rw [ct_ix1, G _ (by omega)] at z
      rw [decide_eq_false (fun y => y z)] at H
      exact H
    · rw [ct_ix1, G _ (by omega)] at z
      rw [decide_eq_true z] at H
      exact H
  | succ r ih =>
    intro k hk
    have v := ih (k + 1) (by omega)
    rw [sumK] at v
    have nb : ∀ {P : Prop}, nI 12 ≤ nI k → P := fun z => absurd z (nI_ge (by omega) (by omega))
    have fk : f k = if bitP (μ 1 (36 + 40 * w + 2)) k then μ 1 (36 + 40 * w + 27 + k) else μ 1 (36 + 40 * w + 15 + k) := by rw [← hf]
    refine r_M_isHeldFor_5 S.1 S.f1.1 S.f1.2 nb nb nb (fun _ => by rw [sl_ix]; exact inb (by omega)) (fun _ _ => by rw [sl_ix2]; exact inb (by omega)) (fun _ _ => by rw [ct_ix]; exact inb (by omega)) (fun _ z y => ?_) (fun _ z y => ?_) (fun _ _ => by rw [sl_ix2]; exact inb (by omega)) (fun _ _ => by rw [ct_ix]; exact inb (by omega)) (fun _ z y => ?_) (fun _ z y => ?_)
    · rw [ct_ix, G _ (by omega)] at y
      rw [if_neg y] at v
      rw [add_n0, nI_s]
      exact v
    · rw [ct_ix, G _ (by omega)] at y
      rw [sl_ix, G _ (by omega)] at z
      rw [if_pos y, fk, if_neg z] at v
      rw [sl_ix2, G _ (by omega), nI_s]
      exact v
    · rw [ct_ix, G _ (by omega)] at y
      rw [if_neg y] at v
      rw [add_n0, nI_s]
      exact v
    · rw [ct_ix, G _ (by omega)] at y
      rw [sl_ix, G _ (by omega)] at z
      rw [if_pos y, fk, if_pos z] at v
      rw [sl_ix2, G _ (by omega), nI_s]
      exact v
