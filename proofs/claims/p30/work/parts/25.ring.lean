/-! ===== Graph.lowestBehind, findRing ===== -/
def fstN (p : Nat → Bool) : Nat → Nat → Nat
  | 0, i => i
  | m + 1, i => if p i = true then i else fstN p m (i + 1)
theorem fstN_le {p : Nat → Bool} : ∀ m i, fstN p m i ≤ i + m := by
  intro m
  induction m with
  | zero => intro i; exact Nat.le_refl _
  | succ m ih =>
    intro i
    unfold fstN
    split
    · omega
    · have := ih (i + 1); omega
def lowB (R : Nat → Nat → Bool) (D : Nat → Nat) (n a left : Nat) : Nat :=
  if fstN (fun j => R a j && decide (D j = left)) n 0 = n then a else fstN (fun j => R a j && decide (D j = left)) n 0
theorem lowB_lt {R : Nat → Nat → Bool} {D : Nat → Nat} {n a left : Nat} (ha : a < n) : lowB R D n a left < n := by
  unfold lowB
  have := @fstN_le (fun j => R a j && decide (D j = left)) n 0
  split <;> omega
theorem s_G_lowestBehind {h : sn_H} {g n a left : Nat} {γ : sn_V} {R : Nat → Nat → Bool} {D : Nat → Nat} {Q : Option Value → sn_H → Prop} (S : GrS h g) (hn : n ≤ 17) (ha : a < n) (hl : left < 2 ^ 31) (h0 : γ 0 0 = nI n)
    (hR : ∀ i j, i < n → j < 31 → (bitP (γ 4 i) j ↔ R i j = true)) (h7 : ∀ j, j < n → γ 7 j = nI (D j)) (hD : ∀ j, D j ≤ 17)
    (H : Q (some (.int (nI (lowB R D n a left)))) (hpg h g γ)) : wpE 38 0 [some (.ref g), some (.int (nI a)), some (.int (nI left)), none] [] (hpg h g γ) (0, 0) Q := by
  refine r_G_lowestBehind_0 ?_
  suffices ∀ (m i : Nat), i + m = n → fstN (fun j => R a j && decide (D j = left)) n 0 = fstN (fun j => R a j && decide (D j = left)) m i → wpE 38 2 [some (.ref g), some (.int (nI a)), some (.int (nI left)), some (.int (nI i))] [] (hpg h g γ) (0, 0) Q from this n 0 (by omega) rfl
  intro m
  induction m with
  | zero =>
    intro i hi e
    have hin : i = n := by omega
    subst hin
    have bad : ∀ {P : Prop}, ¬ (hG (hpg h g γ) g 0) ≤ nI i → P := by
      intro P z
      rw [hpg_get0, h0] at z; have := nle_nI z (by omega) (by omega); omega
    refine r_G_lowestBehind_2 S.1 S.f4.1 S.f4.2 S.f7.1 S.f7.2 (fun _ => ?_) (fun z => bad z) (fun z => bad z) (fun z => bad z) (fun z => bad z) (fun z => bad z)
    unfold lowB at H
    rw [e] at H
    rw [if_pos (show fstN (fun j => R a j && decide (D j = left)) 0 i = i from rfl)] at H
    exact H
  | succ m ih =>
    intro i hi e
    have ci : (nI i).toNatClampNeg = i := cl (by omega)
    have ca : (nI a).toNatClampNeg = a := cl (by omega)
    have d7 : (γ 7 i = nI left) ↔ D i = left := by
      rw [h7 i (by omega)]
      have := hD i
      exact nI_eq (by omega) hl
    have go : (R a i && decide (D i = left)) = false → wpE 38 2 [some (.ref g), some (.int (nI a)), some (.int (nI left)), some (.int (nI i + nI 1))] [] (hpg h g γ) (0, 0) Q := by
      intro z
      rw [nI_s]
      refine ih (i + 1) (by omega) (e.trans ?_)
      show (if (R a i && decide (D i = left)) = true then i else _) = _
      rw [z]
      rfl
    refine r_G_lowestBehind_2 S.1 S.f4.1 S.f4.2 S.f7.1 S.f7.2 (fun z => ?_) (fun _ => inb (by omega)) (fun _ z => ?_) (fun _ _ => inb (by omega)) (fun _ z1 z2 => ?_) (fun _ z1 z2 => ?_)
    · rw [hpg_get0, h0] at z
      exact absurd z (nI_ge (by omega) (by omega))
    · rw [ca, hpg_get (by decide)] at z
      have : ¬ R a i = true := fun q => z ((hR a i ha (by omega)).mpr q)
      exact go (by rw [Bool.eq_false_iff.mpr this]; rfl)
    · rw [ci, hpg_get (by decide), d7] at z2
      exact go (by rw [decide_eq_false z2, Bool.and_false])
    · rw [ca, hpg_get (by decide)] at z1
      rw [ci, hpg_get (by decide), d7] at z2
      have r1 := (hR a i ha (by omega)).mp z1
      have e2 : fstN (fun j => R a j && decide (D j = left)) n 0 = i := by
        rw [e]
        show (if (R a i && decide (D i = left)) = true then i else _) = _
        rw [r1, decide_eq_true z2]
        rfl
      unfold lowB at H
      rw [e2, if_neg (by omega)] at H
      exact H
def nst (R : Nat → Nat → Bool) (D : Nat → Nat) (l : Nat) : Nat → Nat
  | 0 => 17
  | i + 1 => if R l i = true then (if D i < nst R D l i then D i else nst R D l i) else nst R D l i
theorem nst_le {R : Nat → Nat → Bool} {D : Nat → Nat} {l : Nat} : ∀ i, nst R D l i ≤ 17 := by
  intro i
  induction i with
  | zero => exact Nat.le_refl _
  | succ i ih =>
    unfold nst
    split
    · split <;> omega
    · exact ih
/-- the way that findRing goes: its node after t steps -/
def rgN (R : Nat → Nat → Bool) (D : Nat → Nat) (n q : Nat) : Nat → Nat
  | 0 => n - 1
  | t + 1 => lowB R D n (rgN R D n q t) (q - t)
theorem rgN_lt {R : Nat → Nat → Bool} {D : Nat → Nat} {n q : Nat} (hn : 0 < n) : ∀ t, rgN R D n q t < n := by
  intro t
  induction t with
  | zero => show n - 1 < n; omega
  | succ t ih => exact lowB_lt ih
theorem s_G_tellRing {h : sn_H} {g n q : Nat} {γ0 : sn_V} {R : Nat → Nat → Bool} {D nn : Nat → Nat} {Q : Option Value → sn_H → Prop} (S : GrS h g) (hn : n ≤ 17) (hn0 : 0 < n) (hq : q ≤ 16) (h0 : γ0 0 0 = nI n)
    (hR : ∀ i j, i < n → j < 31 → (bitP (γ0 4 i) j ↔ R i j = true)) (h7 : ∀ j, j < n → γ0 7 j = nI (D j)) (hD : ∀ j, D j ≤ 17) (h2 : ∀ j, j < n → γ0 2 j = nI (nn j))
    (H : ∀ γ, (∀ j k, j ≠ 8 → ¬ (j = 0 ∧ k = 9) → γ j k = γ0 j k) → γ 0 9 = nI q → (∀ t, t < q → γ 8 t = nI (nn (rgN R D n q (t + 1)))) → Q none (hpg h g γ)) :
    ∀ (m t : Nat) (γ : sn_V), t + m = q → (∀ j k, j ≠ 8 → ¬ (j = 0 ∧ k = 9) → γ j k = γ0 j k) → γ 0 9 = nI t → (∀ u, u < t → γ 8 u = nI (nn (rgN R D n q (u + 1)))) →
      wpE 36 74 [some (.ref g), none, none, some (.int (nI (rgN R D n q t))), some (.int (nI (q - t)))] [] (hpg h g γ) (0, 0) Q := by
  intro m
  induction m with
  | zero =>
    intro t γ ht hγ h9 h8
    have htq : t = q := by omega
    subst htq
    refine r_G_findRing_74 S.1 (fun _ => H γ hγ h9 h8) (fun z => ?_)
    rw [Nat.sub_self, nI_0] at z
    exact absurd (Int32.le_refl 0) z
  | succ m ih =>
    intro t γ ht hγ h9 h8
    have ha := @rgN_lt R D n q hn0 t
    have ha1 := @rgN_lt R D n q hn0 (t + 1)
    refine r_G_findRing_74 S.1 (fun z => ?_) (fun _ => ?_)
    · rw [← nI_0] at z
      exact absurd z (nI_ge (by omega) (by omega))
    · refine s_G_lowestBehind (R := R) (D := D) S hn ha (by omega) ((hγ 0 0 (by omega) (by omega)).trans h0) (fun i j hi hj => by rw [hγ 4 i (by omega) (by omega)]; exact hR i j hi hj) (fun j hj => (hγ 7 j (by omega) (by omega)).trans (h7 j hj)) hD ?_
      show wpE 36 86 [some (.ref g), none, none, none, some (.int (nI (q - t)))] [.int (nI (rgN R D n q (t + 1)))] (hpg h g γ) (0, 0) Q
      have e9 : hG (hpg h g γ) g 9 = nI t := by rw [hpg_get0]; exact h9
      refine r_G_findRing_86 S.1 S.f8.1 S.f2.1 S.f2.2 S.f8.2 (inb (by omega)) (by rw [e9]; exact inb (by omega)) ?_
      rw [e9, cl (by omega : t < 2 ^ 31), cl (by omega : rgN R D n q (t + 1) < 2 ^ 31), hpg_get (by decide), hγ 2 _ (by omega) (by omega), h2 _ ha1, hpg_set (by decide), hpg_get0, hpg_set0, up_n (by omega), h9, nI_s]
      have e4 : nI (q - t) + -(nI 1) = nI (q - (t + 1)) := by
        rw [show q - t = q - (t + 1) + 1 by omega, ← nI_s (q - (t + 1)), Int32.add_assoc, Int32.add_right_neg, Int32.add_zero]
      rw [e4]
      refine r_G_findRing_95 (ih (t + 1) _ (by omega) (fun j k hj hjk => ?_) up_s (fun u hu => ?_))
      · rw [up_n (by omega), up_n (by omega)]; exact hγ j k hj hjk
      · rw [up_n (by omega)]
        by_cases e : u = t
        · subst e; rw [up_s]
        · rw [up_n (by omega)]; exact h8 u (by omega)
/-- how many nodes findRing tells -/
def rgQ (R : Nat → Nat → Bool) (n : Nat) : Nat := if nst R (dst R n (n - 1) (n - 1)) (n - 1) (n - 1) = 17 then 0 else nst R (dst R n (n - 1) (n - 1)) (n - 1) (n - 1)
theorem s_G_findRing {h : sn_H} {g n : Nat} {γ0 : sn_V} {R : Nat → Nat → Bool} {nn : Nat → Nat} {Q : Option Value → sn_H → Prop} (S : GrS h g) (hn : n ≤ 17) (hn0 : 0 < n) (h0 : γ0 0 0 = nI n)
    (hR : ∀ i j, i < n → j < 31 → (bitP (γ0 4 i) j ↔ R i j = true)) (h2 : ∀ j, j < n → γ0 2 j = nI (nn j))
    (H : ∀ γ, (∀ j k, j ≠ 7 → j ≠ 8 → ¬ (j = 0 ∧ k = 9) → γ j k = γ0 j k) → γ 0 9 = nI (rgQ R n) → (∀ t, t < rgQ R n → γ 8 t = nI (nn (rgN R (dst R n (n - 1) (n - 1)) n (rgQ R n) (t + 1)))) → Q none (hpg h g γ)) :
    wpE 36 0 [some (.ref g), none, none, none, none] [] (hpg h g γ0) (0, 0) Q := by
  have hD : ∀ j, dst R n (n - 1) (n - 1) j ≤ 17 := fun j => by rcases @dst_le R n (n - 1) (n - 1) j with q | q <;> omega
  generalize hDD : dst R n (n - 1) (n - 1) = D at H hD
  have e1 : nI n - nI 1 = nI (n - 1) := by
    rw [show nI n = nI (n - 1) + nI 1 by rw [nI_s, show n - 1 + 1 = n by omega], Int32.add_sub_cancel]
  refine r_G_findRing_0 S.1 (fun _ => ?_) (fun z => ?_)
  · rw [hpg_set0, hpg_get0, up_n (by omega), h0, e1]
    refine s_G_countSteps (l := n - 1) (R := R) S hn (by omega) (by rw [up_n (by omega)]; exact h0) (fun i j hi hj => by rw [up_n (by omega)]; exact hR i j hi hj) (fun γ1 f1 f7 => ?_)
    rw [hDD] at f7
    refine r_G_findRing_22 ?_
    have k0 : γ1 0 0 = nI n := by rw [f1 0 0 (by omega), up_n (by omega)]; exact h0
    have k4 : ∀ i j, i < n → j < 31 → (bitP (γ1 4 i) j ↔ R i j = true) := fun i j hi hj => by rw [f1 4 i (by omega), up_n (by omega)]; exact hR i j hi hj
    have k2 : ∀ j, j < n → γ1 2 j = nI (nn j) := fun j hj => by rw [f1 2 j (by omega), up_n (by omega)]; exact h2 j hj
    have k9 : γ1 0 9 = nI 0 := by rw [f1 0 9 (by omega), up_s]
    have ko : ∀ j k, j ≠ 7 → j ≠ 8 → ¬ (j = 0 ∧ k = 9) → γ1 j k = γ0 j k := fun j k h1 h3 h4 => by rw [f1 j k h1, up_n (by omega)]
    suffices ∀ (m i : Nat), i + m = n - 1 → wpE 36 27 [some (.ref g), some (.int (nI (n - 1))), some (.int (nI (nst R D (n - 1) i))), some (.int (nI i)), none] [] (hpg h g γ1) (0, 0) Q from this (n - 1) 0 (by omega)
    intro m
    induction m with
    | zero =>
      intro i hi
      have hin : i = n - 1 := by omega
      subst hin
      have ns := @nst_le R D (n - 1) (n - 1)
      refine r_G_findRing_27 S.1 S.f4.1 S.f4.2 S.f7.1 S.f7.2 (fun _ z => ?_) (fun _ z => ?_) (fun z => absurd (nI_le (Nat.le_refl _) (by omega)) z) (fun z => absurd (nI_le (Nat.le_refl _) (by omega)) z) (fun z => absurd (nI_le (Nat.le_refl _) (by omega)) z) (fun z => absurd (nI_le (Nat.le_refl _) (by omega)) z)
      · have z' : ¬ nst R D (n - 1) (n - 1) = 17 := fun q => z (by rw [q])
        have eq : rgQ R n = nst R D (n - 1) (n - 1) := by unfold rgQ; rw [hDD, if_neg z']
        have hq16 : rgQ R n ≤ 16 := by rw [eq]; omega
        rw [← eq]
        refine s_G_tellRing (R := R) (D := D) (nn := nn) S hn hn0 hq16 k0 k4 f7 hD k2 (fun γ g1 g2 g3 => ?_) (rgQ R n) 0 γ1 (Nat.zero_add _) (fun _ _ _ _ => rfl) k9 (fun u hu => absurd hu (Nat.not_lt_zero u))
        exact H γ (fun j k h1 h3 h4 => (g1 j k h3 h4).trans (ko j k h1 h3 h4)) g2 g3
      · have z' : nst R D (n - 1) (n - 1) = 17 := (nI_eq (by omega) (by omega)).mp z
        have eq : rgQ R n = 0 := by unfold rgQ; rw [hDD, if_pos z']
        exact H γ1 ko (by rw [eq]; exact k9) (fun t ht => by omega)
    | succ m ih =>
      intro i hi
      have ci : (nI i).toNatClampNeg = i := cl (by omega)
      have cl1 : (nI (n - 1)).toNatClampNeg = n - 1 := cl (by omega)
      have ns := @nst_le R D (n - 1) i
      refine r_G_findRing_27 S.1 S.f4.1 S.f4.2 S.f7.1 S.f7.2 (fun z => absurd z (nI_ge (by omega) (by omega))) (fun z => absurd z (nI_ge (by omega) (by omega))) (fun _ => inb (by omega)) (fun _ z => ?_) (fun _ _ => inb (by omega)) (fun _ z => ?_)
      · rw [cl1, hpg_get (by decide)] at z
        have r0 : ¬ R (n - 1) i = true := fun q => z ((k4 (n - 1) i (by omega) (by omega)).mpr q)
        have := ih (i + 1) (by omega)
        rw [nst, if_neg r0] at this
        rw [nI_s]
        exact this
      · rw [cl1, hpg_get (by decide)] at z
        have r0 : R (n - 1) i = true := (k4 (n - 1) i (by omega) (by omega)).mp z
        have hd := hD i
        rw [ci, hpg_get (by decide), f7 i (by omega), nI_s]
        have := ih (i + 1) (by omega)
        rw [nst, if_pos r0] at this
        by_cases w : D i < nst R D (n - 1) i
        · rw [if_pos (nI_lt w (by omega))]
          rw [if_pos w] at this
          exact this
        · rw [if_neg (fun y => w ((nI_ltI (by omega) (by omega)).mp y))]
          rw [if_neg w] at this
          exact this
  · rw [hpg_set0, hpg_get0, up_n (by omega), h0, e1, ← nI_0] at z
    exact absurd (nI_le (by omega) (by omega)) z
