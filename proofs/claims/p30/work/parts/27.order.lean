/-! ===== countNodesInRings, lowestPossible, findOrder ===== -/
def wal (R : Nat → Nat → Bool) : Nat → Nat → Nat → Bool
  | 0, i, j => R i j
  | t + 1, i, j => wal R t i j || (wal R t i t && wal R t t j)
theorem wal_t {R : Nat → Nat → Bool} {t j : Nat} : wal R (t + 1) t j = wal R t t j := by
  show (wal R t t j || (wal R t t t && wal R t t j)) = _
  cases wal R t t t <;> cases wal R t t j <;> rfl
def rcN (R : Nat → Nat → Bool) (n : Nat) : Nat := smN (fun i => b01 (wal R n i i)) n 0
theorem s_G_countNodesInRings {h : sn_H} {g n : Nat} {γ0 : sn_V} {R : Nat → Nat → Bool} {Q : Option Value → sn_H → Prop} (S : GrS h g) (hn : n ≤ 17) (h0 : γ0 0 0 = nI n)
    (hR : ∀ i j, i < n → j < 32 → (bitP (γ0 4 i) j ↔ R i j = true))
    (H : ∀ γ, (∀ j k, j ≠ 6 → γ j k = γ0 j k) → Q (some (.int (nI (rcN R n)))) (hpg h g γ)) :
    wpE 77 0 [some (.ref g), none, none] [] (hpg h g γ0) (0, 0) Q := by
  have bad0 : ∀ {γ : sn_V}, (∀ j k, j ≠ 6 → γ j k = γ0 j k) → hG (hpg h g γ) g 0 = nI n := fun e => by rw [hpg_get0, e 0 0 (by omega)]; exact h0
  -- the count
  have last : ∀ (m i acc : Nat) (γ : sn_V), i + m = n → (∀ j k, j ≠ 6 → γ j k = γ0 j k) → (∀ a j, a < n → j < 32 → (bitP (γ 6 a) j ↔ wal R n a j = true)) → acc + smN (fun i => b01 (wal R n i i)) m i = rcN R n →
      wpE 77 92 [some (.ref g), some (.int (nI acc)), some (.int (nI i))] [] (hpg h g γ) (0, 0) Q := by
    intro m
    induction m with
    | zero =>
      intro i acc γ hi hγ hw ha
      have eh := bad0 hγ
      refine r_G_countNodesInRings_92 S.1 S.f6.1 S.f6.2 (fun _ => ?_) (fun z => ?_) (fun z => ?_) (fun z => ?_)
      · have e : acc = rcN R n := ha
        rw [e]
        exact H γ hγ
      all_goals (rw [eh] at z; have := nle_nI z (by omega) (by omega); omega)
    | succ m ih =>
      intro i acc γ hi hγ hw ha
      have eh := bad0 hγ
      have ci : (nI i).toNatClampNeg = i := cl (by omega)
      have ha' : acc + (b01 (wal R n i i) + smN (fun i => b01 (wal R n i i)) m (i + 1)) = rcN R n := ha
      refine r_G_countNodesInRings_92 S.1 S.f6.1 S.f6.2 (fun z => ?_) (fun _ => inb (by omega)) (fun _ z => ?_) (fun _ z => ?_)
      · rw [eh] at z; exact absurd z (nI_ge (by omega) (by omega))
      · rw [ci, hpg_get (by decide)] at z
        rw [nI_s]
        refine ih (i + 1) acc γ (by omega) hγ hw ?_
        rw [Bool.eq_false_iff.mpr (fun q => z ((hw i i (by omega) (by omega)).mpr q))] at ha'
        rw [← ha']
        show _ = acc + (0 + _)
        rw [Nat.zero_add]
      · rw [ci, hpg_get (by decide)] at z
        rw [nI_s, nI_s]
        refine ih (i + 1) (acc + 1) γ (by omega) hγ hw ?_
        rw [(hw i i (by omega) (by omega)).mp z] at ha'
        rw [← ha', Nat.add_assoc acc 1]
        rfl
  -- one pass
  have pass : ∀ (t : Nat), t < n → (∀ (γ : sn_V), (∀ j k, j ≠ 6 → γ j k = γ0 j k) → (∀ a j, a < n → j < 32 → (bitP (γ 6 a) j ↔ wal R (t + 1) a j = true)) → wpE 77 30 [some (.ref g), some (.int (nI (t + 1))), none] [] (hpg h g γ) (0, 0) Q) →
      ∀ (m i : Nat) (γ : sn_V), i + m = n → (∀ j k, j ≠ 6 → γ j k = γ0 j k) → (∀ a j, a < n → j < 32 → (bitP (γ 6 a) j ↔ wal R (if a < i then t + 1 else t) a j = true)) →
      wpE 77 40 [some (.ref g), some (.int (nI t)), some (.int (nI i))] [] (hpg h g γ) (0, 0) Q := by
    intro t ht K m
    induction m with
    | zero =>
      intro i γ hi hγ hw
      have eh := bad0 hγ
      have hin : i = n := by omega
      refine r_G_countNodesInRings_40 S.1 S.f6.1 S.f6.2 (fun _ => ?_) (fun z => ?_) (fun z => ?_) (fun z => ?_) (fun z => ?_)
      · rw [nI_s]
        exact K γ hγ (fun a j ha hj => by have := hw a j ha hj; rw [if_pos (by omega)] at this; exact this)
      all_goals (rw [eh] at z; have := nle_nI z (by omega) (by omega); omega)
    | succ m ih =>
      intro i γ hi hγ hw
      have eh := bad0 hγ
      have ci : (nI i).toNatClampNeg = i := cl (by omega)
      have ct : (nI t).toNatClampNeg = t := cl (by omega)
      have wi : ∀ j, j < 32 → (bitP (γ 6 i) j ↔ wal R t i j = true) := fun j hj => by have := hw i j (by omega) hj; rw [if_neg (by omega)] at this; exact this
      have wt : ∀ j, j < 32 → (bitP (γ 6 t) j ↔ wal R t t j = true) := fun j hj => by
        have := hw t j ht hj
        split at this
        · rw [wal_t] at this; exact this
        · exact this
      refine r_G_countNodesInRings_40 S.1 S.f6.1 S.f6.2 (fun z => ?_) (fun _ => inb (by omega)) (fun _ z => ?_) (fun _ _ => inb (by omega)) (fun _ z => ?_)
      · rw [eh] at z; exact absurd z (nI_ge (by omega) (by omega))
      · rw [ci, hpg_get (by decide)] at z
        have w : wal R t i t = false := Bool.eq_false_iff.mpr (fun q => z ((wi t (by omega)).mpr q))
        rw [nI_s]
        refine ih (i + 1) γ (by omega) hγ (fun a j ha hj => ?_)
        by_cases e : a = i
        · rw [e, if_pos (by omega), wi j hj]
          show _ ↔ (wal R t i j || (wal R t i t && wal R t t j)) = true
          rw [w, Bool.false_and, Bool.or_false]
        · rw [hw a j ha hj]
          by_cases e2 : a < i
          · rw [if_pos e2, if_pos (by omega)]
          · rw [if_neg e2, if_neg (by omega)]
      · rw [ci, hpg_get (by decide)] at z
        have w : wal R t i t = true := (wi t (by omega)).mp z
        rw [ci, ct, hpg_get (by decide), hpg_get (by decide), hpg_set (by decide), nI_s]
        refine ih (i + 1) _ (by omega) (fun j k hj => by rw [up_n (by omega)]; exact hγ j k hj) (fun a j ha hj => ?_)
        by_cases e : a = i
        · rw [e, up_s, if_pos (by omega), bitP_or hj, wi j hj, wt j hj]
          show _ ↔ (wal R t i j || (wal R t i t && wal R t t j)) = true
          rw [w, Bool.true_and, Bool.or_eq_true]
        · rw [up_n (by omega), hw a j ha hj]
          by_cases e2 : a < i
          · rw [if_pos e2, if_pos (by omega)]
          · rw [if_neg e2, if_neg (by omega)]
  have outer : ∀ (m t : Nat) (γ : sn_V), t + m = n → (∀ j k, j ≠ 6 → γ j k = γ0 j k) → (∀ a j, a < n → j < 32 → (bitP (γ 6 a) j ↔ wal R t a j = true)) → wpE 77 30 [some (.ref g), some (.int (nI t)), none] [] (hpg h g γ) (0, 0) Q := by
    intro m
    induction m with
    | zero =>
      intro t γ ht hγ hw
      have eh := bad0 hγ
      have htn : t = n := by omega
      subst htn
      refine r_G_countNodesInRings_30 S.1 (fun _ => ?_) (fun z => ?_)
      · exact last t 0 0 γ (Nat.zero_add _) hγ hw (Nat.zero_add _)
      · rw [eh] at z; have := nle_nI z (by omega) (by omega); omega
    | succ m ih =>
      intro t γ ht hγ hw
      have eh := bad0 hγ
      refine r_G_countNodesInRings_30 S.1 (fun z => ?_) (fun _ => ?_)
      · rw [eh] at z; exact absurd z (nI_ge (by omega) (by omega))
      · exact pass t (by omega) (fun γ' h1 h2 => ih (t + 1) γ' (by omega) h1 h2) n 0 γ (Nat.zero_add _) hγ (fun a j ha hj => by rw [if_neg (Nat.not_lt_zero a)]; exact hw a j ha hj)
  -- the copy
  refine r_G_countNodesInRings_0 ?_
  suffices ∀ (m i : Nat) (γ : sn_V), i + m = n → (∀ j k, j ≠ 6 → γ j k = γ0 j k) → (∀ a, a < i → γ 6 a = γ0 4 a) → wpE 77 2 [some (.ref g), some (.int (nI i)), none] [] (hpg h g γ) (0, 0) Q from this n 0 γ0 (Nat.zero_add _) (fun _ _ _ => rfl) (fun a ha => absurd ha (Nat.not_lt_zero a))
  intro m
  induction m with
  | zero =>
    intro i γ hi hγ hc
    have eh := bad0 hγ
    refine r_G_countNodesInRings_2 S.1 S.f6.1 S.f4.1 S.f4.2 S.f6.2 (fun _ => ?_) (fun z => ?_) (fun z => ?_) (fun z => ?_)
    · refine outer n 0 γ (Nat.zero_add _) hγ (fun a j ha hj => ?_)
      rw [hc a (by omega)]
      exact hR a j ha hj
    all_goals (rw [eh] at z; have := nle_nI z (by omega) (by omega); omega)
  | succ m ih =>
    intro i γ hi hγ hc
    have eh := bad0 hγ
    refine r_G_countNodesInRings_2 S.1 S.f6.1 S.f4.1 S.f4.2 S.f6.2 (fun z => ?_) (fun _ => inb (by omega)) (fun _ => inb (by omega)) (fun _ => ?_)
    · rw [eh] at z; exact absurd z (nI_ge (by omega) (by omega))
    · rw [cl (by omega : i < 2 ^ 31), hpg_get (by decide), hγ 4 i (by omega), hpg_set (by decide), nI_s]
      refine ih (i + 1) _ (by omega) (fun j k hj => by rw [up_n (by omega)]; exact hγ j k hj) (fun a ha => ?_)
      by_cases e : a = i
      · rw [e, up_s]
      · rw [up_n (by omega)]; exact hc a (by omega)
/-- the lowest node that can come next; n if there is none -/
def wtB (R : Nat → Nat → Bool) (n : Nat) (pl : Nat → Bool) (j : Nat) : Bool := pl j || anyN (fun a => !pl a && R a j) n
def lpN (R : Nat → Nat → Bool) (n : Nat) (pl : Nat → Bool) : Nat := fstN (fun i => !wtB R n pl i) n 0
theorem s_G_lowestPossible {h : sn_H} {g n : Nat} {γ : sn_V} {R : Nat → Nat → Bool} {pl : Nat → Bool} {x : Int32} {Q : Option Value → sn_H → Prop} (S : GrS h g) (hn : n ≤ 17) (h0 : γ 0 0 = nI n)
    (hR : ∀ i j, i < n → j < 32 → (bitP (γ 4 i) j ↔ R i j = true)) (hp : ∀ j, j < 32 → (bitP x j ↔ pl j = true))
    (H : Q (some (.int (if lpN R n pl = n then -(nI 1) else nI (lpN R n pl)))) (hpg h g γ)) :
    wpE 73 0 [some (.ref g), some (.int x), none, none] [] (hpg h g γ) (0, 0) Q := by
  have eh : hG (hpg h g γ) g 0 = nI n := by rw [hpg_get0]; exact h0
  have second : ∀ (y : Int32), (∀ j, j < 32 → (bitP y j ↔ wtB R n pl j = true)) → ∀ (m i : Nat), i + m = n → lpN R n pl = fstN (fun i => !wtB R n pl i) m i →
      wpE 73 37 [some (.ref g), none, some (.int y), some (.int (nI i))] [] (hpg h g γ) (0, 0) Q := by
    intro y hy m
    induction m with
    | zero =>
      intro i hi e
      have hin : i = n := by omega
      have e' : lpN R n pl = n := e.trans hin
      rw [if_pos e'] at H
      refine r_G_lowestPossible_37 S.1 (fun _ => H) (fun z => ?_) (fun z => ?_)
      all_goals (rw [eh] at z; have := nle_nI z (by omega) (by omega); omega)
    | succ m ih =>
      intro i hi e
      have e' : lpN R n pl = if (!wtB R n pl i) = true then i else fstN (fun i => !wtB R n pl i) m (i + 1) := e
      refine r_G_lowestPossible_37 S.1 (fun z => ?_) (fun _ z => ?_) (fun _ z => ?_)
      · rw [eh] at z; exact absurd z (nI_ge (by omega) (by omega))
      · have w : wtB R n pl i = false := Bool.eq_false_iff.mpr (fun q => z ((hy i (by omega)).mpr q))
        rw [w] at e'
        have e' : lpN R n pl = i := e'
        rw [e', if_neg (by omega)] at H
        exact H
      · have w : wtB R n pl i = true := (hy i (by omega)).mp z
        rw [w] at e'
        rw [nI_s]
        exact ih (i + 1) (by omega) e'
  refine r_G_lowestPossible_0 ?_
  suffices ∀ (m i : Nat) (y : Int32), i + m = n → (∀ j, j < 32 → (bitP y j ↔ (pl j = true ∨ ∃ a, a < i ∧ pl a = false ∧ R a j = true))) → wpE 73 4 [some (.ref g), some (.int x), some (.int y), some (.int (nI i))] [] (hpg h g γ) (0, 0) Q from
    this n 0 x (Nat.zero_add _) (fun j hj => (hp j hj).trans ⟨Or.inl, fun q => q.elim id (fun ⟨a, ha, _⟩ => absurd ha (Nat.not_lt_zero a))⟩)
  intro m
  induction m with
  | zero =>
    intro i y hi hy
    have hin : i = n := by omega
    subst hin
    refine r_G_lowestPossible_4 S.1 S.f4.1 S.f4.2 (fun _ => ?_) (fun z => ?_) (fun z => ?_) (fun z => ?_)
    · refine second y (fun j hj => ?_) i 0 (Nat.zero_add _) rfl
      rw [hy j hj]
      unfold wtB
      rw [Bool.or_eq_true, anyN_t]
      constructor
      · rintro (q | ⟨a, q1, q2, q3⟩)
        · exact Or.inl q
        · exact Or.inr ⟨a, q1, by rw [q2, q3]; rfl⟩
      · rintro (q | ⟨a, q1, q2⟩)
        · exact Or.inl q
        · rw [Bool.and_eq_true, Bool.not_eq_true'] at q2
          exact Or.inr ⟨a, q1, q2.1, q2.2⟩
    all_goals (rw [eh] at z; have := nle_nI z (by omega) (by omega); omega)
  | succ m ih =>
    intro i y hi hy
    have ci : (nI i).toNatClampNeg = i := cl (by omega)
    refine r_G_lowestPossible_4 S.1 S.f4.1 S.f4.2 (fun z => ?_) (fun _ _ => inb (by omega)) (fun _ z => ?_) (fun _ z => ?_)
    · rw [eh] at z; exact absurd z (nI_ge (by omega) (by omega))
    · have w : pl i = false := Bool.eq_false_iff.mpr (fun q => z ((hp i (by omega)).mpr q))
      rw [ci, hpg_get (by decide), nI_s]
      refine ih (i + 1) _ (by omega) (fun j hj => ?_)
      rw [bitP_or hj, hy j hj, hR i j (by omega) hj]
      constructor
      · rintro ((q | ⟨a, q1, q2⟩) | q)
        · exact Or.inl q
        · exact Or.inr ⟨a, by omega, q2⟩
        · exact Or.inr ⟨i, by omega, w, q⟩
      · rintro (q | ⟨a, q1, q2, q3⟩)
        · exact Or.inl (Or.inl q)
        · by_cases e : a = i
          · rw [e] at q3; exact Or.inr q3
          · exact Or.inl (Or.inr ⟨a, by omega, q2, q3⟩)
    · have w : pl i = true := (hp i (by omega)).mp z
      rw [nI_s]
      refine ih (i + 1) _ (by omega) (fun j hj => ?_)
      rw [hy j hj]
      constructor
      · rintro (q | ⟨a, q1, q2⟩)
        · exact Or.inl q
        · exact Or.inr ⟨a, by omega, q2⟩
      · rintro (q | ⟨a, q1, q2, q3⟩)
        · exact Or.inl q
        · by_cases e : a = i
          · rw [e, w] at q2; exact absurd q2 (by decide)
          · exact Or.inr ⟨a, by omega, q2, q3⟩
/-- the places that are taken after t steps of the order, and the t-th node -/
def opl (R : Nat → Nat → Bool) (n : Nat) : Nat → Nat → Bool
  | 0, _ => false
  | t + 1, i => opl R n t i || decide (i = lpN R n (opl R n t))
def odN (R : Nat → Nat → Bool) (n t : Nat) : Nat := lpN R n (opl R n t)
theorem s_G_findOrder {h : sn_H} {g n : Nat} {γ0 : sn_V} {R : Nat → Nat → Bool} {nn : Nat → Nat} {Q : Option Value → sn_H → Prop} (S : GrS h g) (hn : n ≤ 17) (h0 : γ0 0 0 = nI n)
    (hR : ∀ i j, i < n → j < 32 → (bitP (γ0 4 i) j ↔ R i j = true)) (h2 : ∀ j, j < n → γ0 2 j = nI (nn j))
    (H : ∀ γ q, (∀ j k, j ≠ 8 → ¬ (j = 0 ∧ k = 9) → γ j k = γ0 j k) → γ 0 9 = nI q → (q = n ∧ (∀ t, t < n → odN R n t < n) ∨ q = 0 ∧ ∃ t, t < n ∧ (∀ u, u < t → odN R n u < n) ∧ odN R n t = n) → (∀ t, t < q → γ 8 t = nI (nn (odN R n t))) → Q none (hpg h g γ)) :
    wpE 72 0 [some (.ref g), none, none, none] [] (hpg h g γ0) (0, 0) Q := by
  refine r_G_findOrder_0 S.1 ?_
  rw [hpg_set0]
  suffices ∀ (m t : Nat) (γ : sn_V) (x : Int32), t + m = n → (∀ j k, j ≠ 8 → ¬ (j = 0 ∧ k = 9) → γ j k = γ0 j k) → γ 0 9 = nI t → (∀ u, u < t → odN R n u < n) → (∀ u, u < t → γ 8 u = nI (nn (odN R n u))) → (∀ j, j < 32 → (bitP x j ↔ opl R n t j = true)) →
      wpE 72 9 [some (.ref g), some (.int x), some (.int (nI t)), none] [] (hpg h g γ) (0, 0) Q from
    this n 0 _ (nI 0) (Nat.zero_add _) (fun j k hj hk => up_n hk) up_s (fun u hu => absurd hu (Nat.not_lt_zero u)) (fun u hu => absurd hu (Nat.not_lt_zero u)) (fun j hj => ⟨fun z => absurd z (bitP_n0 hj), fun z => absurd z (by show ¬ false = true; decide)⟩)
  intro m
  induction m with
  | zero =>
    intro t γ x ht hγ h9 ho h8 hx
    have htn : t = n := by omega
    have eh : hG (hpg h g γ) g 0 = nI n := by rw [hpg_get0, hγ 0 0 (by omega) (by omega)]; exact h0
    refine r_G_findOrder_9 S.1 (fun _ => ?_) (fun z => ?_)
    · exact H γ t hγ h9 (Or.inl ⟨htn, fun u hu => ho u (by omega)⟩) h8
    · rw [eh] at z; have := nle_nI z (by omega) (by omega); omega
  | succ m ih =>
    intro t γ x ht hγ h9 ho h8 hx
    have eh : hG (hpg h g γ) g 0 = nI n := by rw [hpg_get0, hγ 0 0 (by omega) (by omega)]; exact h0
    have e9 : hG (hpg h g γ) g 9 = nI t := by rw [hpg_get0]; exact h9
    have le : odN R n t ≤ n := by have := @fstN_le (fun i => !wtB R n (opl R n t) i) n 0; rw [Nat.zero_add] at this; exact this
    refine r_G_findOrder_9 S.1 (fun z => ?_) (fun _ => ?_)
    · rw [eh] at z; exact absurd z (nI_ge (by omega) (by omega))
    · refine s_G_lowestPossible (R := R) (pl := opl R n t) S hn ((hγ 0 0 (by omega) (by omega)).trans h0) (fun i j hi hj => by rw [hγ 4 i (by omega) (by omega)]; exact hR i j hi hj) hx ?_
      show wpE 72 22 [some (.ref g), some (.int x), some (.int (nI t)), none] [.int (if odN R n t = n then -(nI 1) else nI (odN R n t))] (hpg h g γ) (0, 0) Q
      by_cases e : odN R n t = n
      · rw [if_pos e]
        refine r_G_findOrder_22 S.1 S.f8.1 S.f2.1 S.f2.2 S.f8.2 (fun z => absurd z (by decide)) (fun z => absurd z (by decide)) (fun z => absurd z (by decide)) (fun _ => ?_)
        rw [hpg_set0]
        exact H _ 0 (fun j k hj hk => by rw [up_n hk]; exact hγ j k hj hk) up_s (Or.inr ⟨rfl, t, by omega, ho, e⟩) (fun u hu => absurd hu (Nat.not_lt_zero u))
      · rw [if_neg e]
        have lt : odN R n t < n := by omega
        refine r_G_findOrder_22 S.1 S.f8.1 S.f2.1 S.f2.2 S.f8.2 (fun _ => inb (by omega)) (fun _ => by rw [e9]; exact inb (by omega)) (fun _ => ?_) (fun z => ?_)
        · rw [e9, cl (by omega : t < 2 ^ 31), cl (by omega : odN R n t < 2 ^ 31), hpg_get (by decide), hγ 2 _ (by omega) (by omega), h2 _ lt, hpg_set (by decide), hpg_get0, hpg_set0, up_n (by omega), h9, nI_s]
          refine r_G_findOrder_44 ?_
          rw [nI_s]
          refine ih (t + 1) _ _ (by omega) (fun j k hj hk => ?_) up_s (fun u hu => ?_) (fun u hu => ?_) (fun j hj => ?_)
          · rw [up_n (by omega), up_n (by omega)]; exact hγ j k hj hk
          · by_cases w : u = t
            · rw [w]; exact lt
            · exact ho u (by omega)
          · rw [up_n (by omega)]
            by_cases w : u = t
            · rw [w, up_s]
            · rw [up_n (by omega)]; exact h8 u (by omega)
          · rw [bitP_put (by omega) hj, hx j hj]
            show _ ↔ (opl R n t j || decide (j = odN R n t)) = true
            rw [Bool.or_eq_true, decide_eq_true_iff]
        · rw [← nI_0] at z
          exact absurd (nI_le (Nat.zero_le _) (by omega)) z
