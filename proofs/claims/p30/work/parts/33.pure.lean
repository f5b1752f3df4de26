/-! ===== pure lemmas: distances and ways ===== -/
theorem smN_mono {f g : Nat → Nat} : ∀ m i, (∀ j, i ≤ j → j < i + m → f j ≤ g j) → smN f m i ≤ smN g m i := by
  intro m
  induction m with
  | zero => intro i _; exact Nat.le_refl _
  | succ m ih =>
    intro i hf
    have a := hf i (by omega) (by omega)
    have b := ih (i + 1) (fun j h1 h2 => hf j (by omega) (by omega))
    show f i + smN f m (i + 1) ≤ g i + smN g m (i + 1)
    omega
theorem smN_lt {f g : Nat → Nat} : ∀ m i, (∀ j, i ≤ j → j < i + m → f j ≤ g j) → (∃ j, i ≤ j ∧ j < i + m ∧ f j < g j) → smN f m i < smN g m i := by
  intro m
  induction m with
  | zero => intro i _ ⟨j, h1, h2, _⟩; omega
  | succ m ih =>
    intro i hf ⟨j, h1, h2, h3⟩
    have a := hf i (by omega) (by omega)
    show f i + smN f m (i + 1) < g i + smN g m (i + 1)
    by_cases e : j = i
    · rw [e] at h3
      have b := smN_mono m (i + 1) (fun j h1 h2 => hf j (by omega) (by omega))
      omega
    · have b := ih (i + 1) (fun j h1 h2 => hf j (by omega) (by omega)) ⟨j, by omega, by omega, h3⟩
      omega
theorem smN_cong {f g : Nat → Nat} : ∀ m i, (∀ j, i ≤ j → j < i + m → f j = g j) → smN f m i = smN g m i := fun m i e =>
  Nat.le_antisymm (smN_mono m i (fun j h1 h2 => Nat.le_of_eq (e j h1 h2))) (smN_mono m i (fun j h1 h2 => Nat.le_of_eq (e j h1 h2).symm))
theorem b01_le (b : Bool) : b01 b ≤ 1 := by unfold b01; split <;> omega
def cntD (R : Nat → Nat → Bool) (n l k : Nat) : Nat := smN (fun j => b01 (decide (dst R n l k j ≠ 17))) n 0
theorem cntD_le {R : Nat → Nat → Bool} {n l k : Nat} : cntD R n l k ≤ n := by
  have := smN_le (f := fun j => b01 (decide (dst R n l k j ≠ 17))) (fun j => b01_le _) n 0
  unfold cntD
  omega
theorem dst_keep {R : Nat → Nat → Bool} {n l k i : Nat} (h : dst R n l k i ≠ 17) : dst R n l (k + 1) i = dst R n l k i := by rw [dst_s, if_neg (fun q => h q.1)]
theorem dst_lvl {R : Nat → Nat → Bool} {n l : Nat} (hl : l < n) : ∀ k, k ≤ 16 → (∃ i, i < n ∧ dst R n l k i = k) → k + 1 ≤ cntD R n l k := by
  intro k
  induction k with
  | zero =>
    intro _ _
    have := smN_lt (f := fun _ => 0) (g := fun j => b01 (decide (dst R n l 0 j ≠ 17))) n 0 (fun j _ _ => Nat.zero_le _) ⟨l, by omega, by omega, by
      have : dst R n l 0 l = 0 := by unfold dst; exact if_pos rfl
      show 0 < b01 (decide (dst R n l 0 l ≠ 17))
      rw [this]
      decide⟩
    unfold cntD
    omega
  | succ k ih =>
    intro hk ⟨i, hi, e⟩
    have new : dst R n l k i = 17 ∧ anyN (fun j => R i j && decide (dst R n l k j = k)) n = true := by
      apply Classical.byContradiction
      intro q
      rw [dst_s, if_neg q] at e
      rcases @dst_le R n l k i with w | w <;> omega
    obtain ⟨j, hj, q⟩ := anyN_t.mp new.2
    rw [Bool.and_eq_true] at q
    have a := ih (by omega) ⟨j, hj, of_decide_eq_true q.2⟩
    have b : cntD R n l k < cntD R n l (k + 1) := by
      refine smN_lt n 0 (fun x _ _ => ?_) ⟨i, by omega, by omega, ?_⟩
      · show b01 (decide (dst R n l k x ≠ 17)) ≤ b01 (decide (dst R n l (k + 1) x ≠ 17))
        by_cases w : dst R n l k x = 17
        · rw [w]; exact Nat.zero_le _
        · rw [dst_keep w]; exact Nat.le_refl _
      · show b01 (decide (dst R n l k i ≠ 17)) < b01 (decide (dst R n l (k + 1) i ≠ 17))
        rw [new.1, e, decide_eq_true (show k + 1 ≠ 17 by omega)]
        decide
    omega
theorem dst_stab {R : Nat → Nat → Bool} {n l : Nat} (hl : l < n) : ∀ m, n - 1 + m ≤ 16 → ∀ i, i < n → dst R n l (n - 1 + m) i = dst R n l (n - 1) i := by
  intro m
  induction m with
  | zero => intro _ i _; rfl
  | succ m ih =>
    intro hm i hi
    rw [← ih (by omega) i hi]
    show dst R n l (n - 1 + m + 1) i = _
    apply Classical.byContradiction
    intro q
    have e : dst R n l (n - 1 + m + 1) i = n - 1 + m + 1 := by
      rw [dst_s] at q ⊢
      split
      · rfl
      · rename_i w
        rw [if_neg w] at q
        exact absurd rfl q
    have a := dst_lvl (R := R) hl (n - 1 + m + 1) (by omega) ⟨i, hi, e⟩
    have b := @cntD_le R n l (n - 1 + m + 1)
    omega
theorem dst_clos {R : Nat → Nat → Bool} {n l a b : Nat} (ha : a < n) (hR : R b a = true) : ∀ k, k ≤ 15 → dst R n l k a ≠ 17 → dst R n l (k + 1) b ≠ 17 := by
  intro k
  induction k with
  | zero =>
    intro _ h
    have e : dst R n l 0 a = 0 := by rcases @dst_le R n l 0 a with w | w <;> omega
    rw [dst_s]
    split
    · omega
    · rename_i w
      intro z
      exact w ⟨z, anyN_t.mpr ⟨a, ha, by rw [hR, decide_eq_true e]; rfl⟩⟩
  | succ k ih =>
    intro hk h
    by_cases e : dst R n l (k + 1) a = k + 1
    · rw [dst_s]
      split
      · omega
      · rename_i w
        intro z
        exact w ⟨z, anyN_t.mpr ⟨a, ha, by rw [hR, decide_eq_true e]; rfl⟩⟩
    · have e2 : dst R n l (k + 1) a = dst R n l k a := by
        rw [dst_s] at e ⊢
        split
        · rename_i w; rw [if_pos w] at e; exact absurd rfl e
        · rfl
      rw [e2] at h
      have w := ih (by omega) h
      rw [dst_keep w]
      exact w
def WkN (R : Nat → Nat → Bool) (n : Nat) : Nat → Nat → Nat → Prop
  | 0, i, j => R i j = true
  | s + 1, i, j => ∃ a, R i a = true ∧ a < n ∧ WkN R n s a j
def Wk (R : Nat → Nat → Bool) (n i j : Nat) : Prop := ∃ s, WkN R n s i j
theorem Wk.one {R : Nat → Nat → Bool} {n i j : Nat} (h : R i j = true) : Wk R n i j := ⟨0, h⟩
theorem Wk.cons {R : Nat → Nat → Bool} {n i a j : Nat} (h : R i a = true) (ha : a < n) (h2 : Wk R n a j) : Wk R n i j := by
  obtain ⟨s, h2⟩ := h2
  exact ⟨s + 1, a, h, ha, h2⟩
theorem Wk.ind {R : Nat → Nat → Bool} {n j : Nat} {P : Nat → Prop} (h1 : ∀ i, R i j = true → P i) (h2 : ∀ i a, R i a = true → a < n → Wk R n a j → P a → P i) {i : Nat} (h : Wk R n i j) : P i := by
  obtain ⟨s, h⟩ := h
  revert i h
  induction s with
  | zero => intro i h; exact h1 i h
  | succ s ih => intro i ⟨a, q1, q2, q3⟩; exact h2 i a q1 q2 ⟨s, q3⟩ (ih q3)
theorem Wk.tr {R : Nat → Nat → Bool} {n i a j : Nat} (h : Wk R n i a) (ha : a < n) (h2 : Wk R n a j) : Wk R n i j :=
  Wk.ind (P := fun i => Wk R n i j) (fun _ r => Wk.cons r ha h2) (fun _ _ r hb _ ih => Wk.cons r hb ih) h
theorem wal_s {R : Nat → Nat → Bool} {t i j : Nat} : wal R (t + 1) i j = true ↔ wal R t i j = true ∨ (wal R t i t = true ∧ wal R t t j = true) := by
  show (wal R t i j || (wal R t i t && wal R t t j)) = true ↔ _
  rw [Bool.or_eq_true, Bool.and_eq_true]
theorem wal_Wk {R : Nat → Nat → Bool} {n : Nat} : ∀ t, t ≤ n → ∀ i j, wal R t i j = true → Wk R n i j := by
  intro t
  induction t with
  | zero => intro _ i j h; exact Wk.one h
  | succ t ih =>
    intro ht i j h
    rcases wal_s.mp h with q | ⟨q1, q2⟩
    · exact ih (by omega) i j q
    · exact (ih (by omega) i t q1).tr (by omega) (ih (by omega) t j q2)
theorem wal_tr {R : Nat → Nat → Bool} : ∀ t i a j, a < t → wal R t i a = true → wal R t a j = true → wal R t i j = true := by
  intro t
  induction t with
  | zero => intro i a j h; exact absurd h (Nat.not_lt_zero a)
  | succ t ih =>
    intro i a j ha h1 h2
    rw [wal_s] at h1 h2 ⊢
    by_cases e : a = t
    · subst e
      refine Or.inr ⟨?_, ?_⟩
      · rcases h1 with q | q
        · exact q
        · exact q.1
      · rcases h2 with q | q
        · exact q
        · exact q.2
    · have ha' : a < t := by omega
      rcases h1 with q | ⟨q, q'⟩ <;> rcases h2 with r | ⟨r, r'⟩
      · exact Or.inl (ih i a j ha' q r)
      · exact Or.inr ⟨ih i a t ha' q r, r'⟩
      · exact Or.inr ⟨q, ih t a j ha' q' r⟩
      · exact Or.inr ⟨q, r'⟩
theorem wal_mono {R : Nat → Nat → Bool} {i j : Nat} (h : R i j = true) : ∀ t, wal R t i j = true := by
  intro t
  induction t with
  | zero => exact h
  | succ t ih => exact wal_s.mpr (Or.inl ih)
theorem Wk_wal {R : Nat → Nat → Bool} {n i j : Nat} (h : Wk R n i j) : wal R n i j = true :=
  Wk.ind (P := fun i => wal R n i j = true) (fun _ r => wal_mono r n) (fun _ _ r ha _ ih => wal_tr n _ _ _ ha (wal_mono r n) ih) h
theorem dst_Wk {R : Nat → Nat → Bool} {n l : Nat} : ∀ k, k ≤ 17 → ∀ b, dst R n l k b ≠ 17 → b = l ∨ Wk R n b l := by
  intro k
  induction k with
  | zero =>
    intro _ b h
    unfold dst at h
    by_cases e : b = l
    · exact Or.inl e
    · rw [if_neg e] at h; exact absurd rfl h
  | succ k ih =>
    intro hk b h
    by_cases w : dst R n l k b = 17
    · rw [dst_s] at h
      by_cases q : dst R n l k b = 17 ∧ anyN (fun j => R b j && decide (dst R n l k j = k)) n = true
      · obtain ⟨j, hj, r⟩ := anyN_t.mp q.2
        rw [Bool.and_eq_true] at r
        rcases ih (by omega) j (by rw [of_decide_eq_true r.2]; omega) with e | e
        · rw [e] at r; exact Or.inr (Wk.one r.1)
        · exact Or.inr (Wk.cons r.1 hj e)
      · rw [if_neg q] at h; exact absurd w h
    · exact ih (by omega) b w
theorem dst_l {R : Nat → Nat → Bool} {n l : Nat} : ∀ k, dst R n l k l = 0 := by
  intro k
  induction k with
  | zero => unfold dst; exact if_pos rfl
  | succ k ih => rw [dst_keep (by omega), ih]
theorem Wk_dst {R : Nat → Nat → Bool} {n l b : Nat} (hn : n ≤ 16) (hl : l < n) (h : Wk R n b l) (hb : b < n) : dst R n l (n - 1) b ≠ 17 := by
  have st : ∀ i, i < n → dst R n l (n - 1 + 1) i = dst R n l (n - 1) i := dst_stab hl 1 (by omega)
  refine Wk.ind (P := fun b => b < n → dst R n l (n - 1) b ≠ 17) (fun b r hb => ?_) (fun b a r ha _ ih hb => ?_) h hb
  · rw [← st b hb]
    exact dst_clos hl r (n - 1) (by omega) (by rw [dst_l]; omega)
  · rw [← st b hb]
    exact dst_clos ha r (n - 1) (by omega) (ih ha)
theorem ring_iff {R : Nat → Nat → Bool} {n i : Nat} (hn : n ≤ 16) (hi : i < n) (hR : ∀ a b, R a b = true → b < n) : wal R n i i = true ↔ ∃ b, b < n ∧ R i b = true ∧ dst R n i (n - 1) b ≠ 17 := by
  constructor
  · intro h
    obtain ⟨s, w⟩ := wal_Wk n (Nat.le_refl n) i i h
    cases s with
    | zero => exact ⟨i, hi, w, by rw [dst_l]; omega⟩
    | succ s =>
      obtain ⟨a, r, ha, w⟩ := w
      exact ⟨a, ha, r, Wk_dst hn hi ⟨s, w⟩ ha⟩
  · rintro ⟨b, hb, r, w⟩
    rcases dst_Wk (n - 1) (by omega) b w with e | e
    · rw [e] at r; exact Wk_wal (Wk.one r)
    · exact Wk_wal (Wk.cons r hb e)
