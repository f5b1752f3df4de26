/-! ===== more of distances, orders (rows of whole, numbers of this claim) ===== -/
theorem dst_val {R : Nat → Nat → Bool} {N l : Nat} : ∀ M i, dst R N l M i ≠ 17 → dst R N l M i ≤ M ∧ ∀ k, dst R N l M i ≤ k → k ≤ M → dst R N l k i = dst R N l M i := by
  intro M
  induction M with
  | zero =>
    intro i h
    rcases @dst_le R N l 0 i with q | q
    · exact ⟨q, fun k _ h2 => by rw [Nat.le_zero.mp h2]⟩
    · exact absurd q h
  | succ M ih =>
    intro i h
    by_cases w : dst R N l M i = 17
    · have e : dst R N l (M + 1) i = M + 1 := by
        rw [dst_s] at h ⊢
        split
        · rfl
        · rename_i q
          rw [if_neg q] at h
          exact absurd w h
      rw [e]
      exact ⟨Nat.le_refl _, fun k h1 h2 => by rw [show k = M + 1 by omega]; exact e⟩
    · rw [dst_keep w]
      obtain ⟨a, b⟩ := ih i w
      refine ⟨by omega, fun k h1 h2 => ?_⟩
      by_cases q : k = M + 1
      · rw [q]; exact dst_keep w
      · exact b k h1 (by omega)
theorem dst_up {R : Nat → Nat → Bool} {N l k i : Nat} (h : dst R N l k i ≠ 17) : ∀ m, dst R N l (k + m) i = dst R N l k i := by
  intro m
  induction m with
  | zero => rfl
  | succ m ih =>
    show dst R N l (k + m + 1) i = _
    rw [dst_keep (by rw [ih]; exact h), ih]
theorem dst_T1 {R : Nat → Nat → Bool} {N l M a d : Nat} (h : dst R N l M a = d + 1) (hd : d + 1 ≠ 17) (hM : M ≤ 16) : ∃ j, j < N ∧ R a j = true ∧ dst R N l M j = d := by
  obtain ⟨v1, v2⟩ := dst_val M a (by rw [h]; exact hd)
  rw [h] at v1 v2
  have e := v2 (d + 1) (Nat.le_refl _) v1
  rw [dst_s] at e
  split at e
  · rename_i q
    obtain ⟨j, hj, r⟩ := anyN_t.mp q.2
    rw [Bool.and_eq_true] at r
    have dj := of_decide_eq_true r.2
    refine ⟨j, hj, r.1, ?_⟩
    have := @dst_up R N l d j (by omega) (M - d)
    rw [show d + (M - d) = M by omega] at this
    rw [this, dj]
  · rcases @dst_le R N l d a with w | w <;> omega
theorem dst_T2 {R : Nat → Nat → Bool} {N l M a j e : Nat} (hj : j < N) (hR : R a j = true) (h : dst R N l M j = e) (he : e + 1 ≤ M) (hM : M ≤ 16) : dst R N l M a ≤ e + 1 := by
  obtain ⟨v1, v2⟩ := dst_val (R := R) (N := N) (l := l) M j (by rw [h]; omega)
  rw [h] at v1 v2
  have e1 := v2 e (Nat.le_refl _) v1
  have w : dst R N l (e + 1) a ≤ e + 1 := by
    rw [dst_s]
    split
    · omega
    · rename_i q
      rcases @dst_le R N l e a with y | y
      · omega
      · exact absurd ⟨y, anyN_t.mpr ⟨j, hj, by rw [hR, decide_eq_true e1]; rfl⟩⟩ q
  have := @dst_up R N l (e + 1) a (by omega) (M - (e + 1))
  rw [show e + 1 + (M - (e + 1)) = M by omega] at this
  omega
theorem dst_0 {R : Nat → Nat → Bool} {N l M i : Nat} (h : dst R N l M i = 0) : i = l := by
  obtain ⟨v1, v2⟩ := dst_val (R := R) (N := N) (l := l) M i (by rw [h]; omega)
  rw [h] at v2
  have e := v2 0 (Nat.le_refl _) (Nat.zero_le _)
  unfold dst at e
  split at e
  · assumption
  · omega
theorem fstN_some {p : Nat → Bool} : ∀ m i, (∃ x, i ≤ x ∧ x < i + m ∧ p x = true) → i ≤ fstN p m i ∧ fstN p m i < i + m ∧ p (fstN p m i) = true ∧ ∀ x, i ≤ x → x < fstN p m i → p x = false := by
  intro m
  induction m with
  | zero => intro i ⟨x, h1, h2, _⟩; omega
  | succ m ih =>
    intro i ⟨x, h1, h2, h3⟩
    unfold fstN
    split
    · rename_i q
      exact ⟨Nat.le_refl _, by omega, q, fun y a b => by omega⟩
    · rename_i q
      have nx : x ≠ i := fun e => q (e ▸ h3)
      obtain ⟨a, b, c, d⟩ := ih (i + 1) ⟨x, by omega, by omega, h3⟩
      refine ⟨by omega, by omega, c, fun y y1 y2 => ?_⟩
      by_cases e : y = i
      · rw [e]; exact Bool.eq_false_iff.mpr q
      · exact d y (by omega) y2
theorem fstN_none {p : Nat → Bool} : ∀ m i, (∀ x, i ≤ x → x < i + m → p x = false) → fstN p m i = i + m := by
  intro m
  induction m with
  | zero => intro i _; rfl
  | succ m ih =>
    intro i h
    unfold fstN
    rw [if_neg (by rw [h i (Nat.le_refl _) (by omega)]; decide), ih (i + 1) (fun x a b => h x (by omega) (by omega))]
    omega
theorem nst_spec {R : Nat → Nat → Bool} {D : Nat → Nat} {l : Nat} (hD : ∀ j, D j ≤ 17) : ∀ i, (∀ j, j < i → R l j = true → nst R D l i ≤ D j) ∧ (nst R D l i ≠ 17 → ∃ j, j < i ∧ R l j = true ∧ D j = nst R D l i) := by
  intro i
  induction i with
  | zero => exact ⟨fun j hj => absurd hj (Nat.not_lt_zero j), fun h => absurd rfl h⟩
  | succ i ih =>
    obtain ⟨i1, i2⟩ := ih
    unfold nst
    by_cases r : R l i = true
    · rw [if_pos r]
      by_cases w : D i < nst R D l i
      · rw [if_pos w]
        refine ⟨fun j hj q => ?_, fun _ => ⟨i, Nat.lt_succ_self i, r, rfl⟩⟩
        by_cases e : j = i
        · rw [e]; exact Nat.le_refl _
        · have := i1 j (by omega) q; omega
      · rw [if_neg w]
        refine ⟨fun j hj q => ?_, fun h => ?_⟩
        · by_cases e : j = i
          · rw [e]; omega
          · exact i1 j (by omega) q
        · obtain ⟨j, a, b, c⟩ := i2 h
          exact ⟨j, by omega, b, c⟩
    · rw [if_neg r]
      refine ⟨fun j hj q => ?_, fun h => ?_⟩
      · by_cases e : j = i
        · rw [e] at q; exact absurd q r
        · exact i1 j (by omega) q
      · obtain ⟨j, a, b, c⟩ := i2 h
        exact ⟨j, by omega, b, c⟩
theorem ct_ix (q : Nat) : nI 6 + (nI 2 * nI q) = nI (6 + 2 * q) := by rw [pk_mul, nI_add]
theorem ct_ix1 (q : Nat) : (nI 6 + (nI 2 * nI q)) + nI 1 = nI (7 + 2 * q) := by rw [ct_ix, nI_add]; exact congrArg nI (by omega)
theorem smN_one {f g : Nat → Nat} {x : Nat} (h1 : ∀ j, j ≠ x → g j = f j) (h2 : g x = f x + 1) : ∀ m i, i ≤ x → x < i + m → smN g m i = smN f m i + 1 := by
  intro m
  induction m with
  | zero => intro i a b; omega
  | succ m ih =>
    intro i a b
    show g i + smN g m (i + 1) = f i + smN f m (i + 1) + 1
    by_cases e : i = x
    · have : smN g m (i + 1) = smN f m (i + 1) := smN_cong m (i + 1) (fun j a b => h1 j (by omega))
      rw [this, e, h2]
      omega
    · rw [h1 i e, ih (i + 1) (by omega) (by omega)]
      omega
theorem smN_c1 : ∀ m i, smN (fun _ => 1) m i = m := by
  intro m
  induction m with
  | zero => intro i; rfl
  | succ m ih => intro i; show 1 + smN (fun _ => 1) m (i + 1) = m + 1; rw [ih]; omega
theorem odN_le {R : Nat → Nat → Bool} {n t : Nat} : odN R n t ≤ n := by
  have := @fstN_le (fun i => !wtB R n (opl R n t) i) n 0
  unfold odN lpN
  omega
theorem odN_new {R : Nat → Nat → Bool} {n t : Nat} (h : odN R n t < n) : opl R n t (odN R n t) = false := by
  have hs : ∃ x, 0 ≤ x ∧ x < 0 + n ∧ (fun i => !wtB R n (opl R n t) i) x = true := by
    apply Classical.byContradiction
    intro q
    have := @fstN_none (fun i => !wtB R n (opl R n t) i) n 0 (fun x a b => Bool.eq_false_iff.mpr (fun z => q ⟨x, a, b, z⟩))
    unfold odN lpN at h
    omega
  obtain ⟨_, _, f3, _⟩ := fstN_some n 0 hs
  have e : fstN (fun i => !wtB R n (opl R n t) i) n 0 = odN R n t := rfl
  rw [e] at f3
  unfold wtB at f3
  cases q : opl R n t (odN R n t) with
  | false => rfl
  | true => rw [q] at f3; exact absurd f3 (by simp)
theorem opl_cnt {R : Nat → Nat → Bool} {n : Nat} : ∀ t, (∀ u, u < t → odN R n u < n) → smN (fun i => b01 (opl R n t i)) n 0 = t := by
  intro t
  induction t with
  | zero =>
    intro _
    have : ∀ m i, smN (fun i => b01 (opl R n 0 i)) m i = 0 := by
      intro m
      induction m with
      | zero => intro i; rfl
      | succ m ih => intro i; show b01 false + smN _ m (i + 1) = 0; rw [ih]; rfl
    exact this n 0
  | succ t ih =>
    intro h
    have hn := h t (Nat.lt_succ_self t)
    have e := smN_one (f := fun i => b01 (opl R n t i)) (g := fun i => b01 (opl R n (t + 1) i)) (x := odN R n t) (fun j hj => by
      show b01 (opl R n t j || decide (j = lpN R n (opl R n t))) = b01 (opl R n t j)
      rw [decide_eq_false (show ¬ j = lpN R n (opl R n t) from hj), Bool.or_false]) (by
      show b01 (opl R n t (odN R n t) || decide (odN R n t = lpN R n (opl R n t))) = b01 (opl R n t (odN R n t)) + 1
      rw [odN_new hn, decide_eq_true (show odN R n t = lpN R n (opl R n t) from rfl)]
      rfl) n 0 (Nat.zero_le _) (by omega)
    rw [e, ih (fun u hu => h u (by omega))]
theorem odN_more {R : Nat → Nat → Bool} {n t : Nat} (h : ∀ u, u < t → odN R n u < n) (h2 : odN R n t < n) : t < n := by
  have a := opl_cnt t h
  have b := smN_lt (f := fun i => b01 (opl R n t i)) (g := fun _ => 1) n 0 (fun j _ _ => b01_le _) ⟨odN R n t, Nat.zero_le _, by omega, by show b01 (opl R n t (odN R n t)) < 1; rw [odN_new h2]; decide⟩
  rw [smN_c1] at b
  omega
theorem fstN_s {p : Nat → Bool} {m i : Nat} : fstN p (m + 1) i = if p i = true then i else fstN p m (i + 1) := rfl
