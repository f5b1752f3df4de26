/-! ===== pure: the ring of the class is the ring of the Model ===== -/
theorem dst_val {R : Nat → Nat → Bool} {N l : Nat} : ∀ M i, dst R N l M i ≠ 17 → dst R N l M i ≤ M ∧ ∀ k, dst R N l M i ≤ k → k ≤ M → dst R N l k i = dst R N l M i := by
  intro M
  induction M with
  | zero =>
    intro i h
    rcases @dst_le R N l 0 i with q | q
    · exact ⟨q, fun k _ h2 => by rw [Nat.le_zero.mp h2]⟩
    · exact absurd q h
  | succ M ih =>
    intro i h
    by_cases w : dst R N l M i = 17
    · have e : dst R N l (M + 1) i = M + 1 := by
        rw [dst_s] at h ⊢
        split
        · rfl
        · rename_i q
          rw [if_neg q] at h
          exact absurd w h
      rw [e]
      exact ⟨Nat.le_refl _, fun k h1 h2 => by rw [show k = M + 1 by omega]; exact e⟩
    · rw [dst_keep w]
      obtain ⟨a, b⟩ := ih i w
      refine ⟨by omega, fun k h1 h2 => ?_⟩
      by_cases q : k = M + 1
      · rw [q]; exact dst_keep w
      · exact b k h1 (by omega)
theorem dst_up {R : Nat → Nat → Bool} {N l k i : Nat} (h : dst R N l k i ≠ 17) : ∀ m, dst R N l (k + m) i = dst R N l k i := by
  intro m
  induction m with
  | zero => rfl
  | succ m ih =>
    show dst R N l (k + m + 1) i = _
    rw [dst_keep (by rw [ih]; exact h), ih]
theorem dst_T1 {R : Nat → Nat → Bool} {N l M a d : Nat} (h : dst R N l M a = d + 1) (hd : d + 1 ≠ 17) (hM : M ≤ 16) : ∃ j, j < N ∧ R a j = true ∧ dst R N l M j = d := by
  obtain ⟨v1, v2⟩ := dst_val M a (by rw [h]; exact hd)
  rw [h] at v1 v2
  have e := v2 (d + 1) (Nat.le_refl _) v1
  rw [dst_s] at e
  split at e
  · rename_i q
    obtain ⟨j, hj, r⟩ := anyN_t.mp q.2
    rw [Bool.and_eq_true] at r
    have dj := of_decide_eq_true r.2
    refine ⟨j, hj, r.1, ?_⟩
    have := @dst_up R N l d j (by omega) (M - d)
    rw [show d + (M - d) = M by omega] at this
    rw [this, dj]
  · rcases @dst_le R N l d a with w | w <;> omega
theorem dst_T2 {R : Nat → Nat → Bool} {N l M a j e : Nat} (hj : j < N) (hR : R a j = true) (h : dst R N l M j = e) (he : e + 1 ≤ M) (hM : M ≤ 16) : dst R N l M a ≤ e + 1 := by
  obtain ⟨v1, v2⟩ := dst_val (R := R) (N := N) (l := l) M j (by rw [h]; omega)
  rw [h] at v1 v2
  have e1 := v2 e (Nat.le_refl _) v1
  have w : dst R N l (e + 1) a ≤ e + 1 := by
    rw [dst_s]
    split
    · omega
    · rename_i q
      rcases @dst_le R N l e a with y | y
      · omega
      · exact absurd ⟨y, anyN_t.mpr ⟨j, hj, by rw [hR, decide_eq_true e1]; rfl⟩⟩ q
  have := @dst_up R N l (e + 1) a (by omega) (M - (e + 1))
  rw [show e + 1 + (M - (e + 1)) = M by omega] at this
  omega
theorem dst_0 {R : Nat → Nat → Bool} {N l M i : Nat} (h : dst R N l M i = 0) : i = l := by
  obtain ⟨v1, v2⟩ := dst_val (R := R) (N := N) (l := l) M i (by rw [h]; omega)
  rw [h] at v2
  have e := v2 0 (Nat.le_refl _) (Nat.zero_le _)
  unfold dst at e
  split at e
  · assumption
  · omega
def rho (n i : Nat) : Nat := if i = n then 16 else i
theorem rho_lt {n i : Nat} (h : i < n) : rho n i = i := if_neg (by omega)
theorem rho_n {n : Nat} : rho n n = 16 := if_pos rfl
theorem rho_le {n i : Nat} (hn : n ≤ 16) (hi : i ≤ n) : rho n i < 17 := by unfold rho; split <;> omega
theorem dst_ren {Rc Rm : Nat → Nat → Bool} {n : Nat} (hn : n ≤ 16) (h1 : ∀ i j, i ≤ n → j ≤ n → Rm (rho n i) (rho n j) = Rc i j) (h2 : ∀ x y, Rm x y = true → ∃ j, j ≤ n ∧ y = rho n j) :
    ∀ k i, i ≤ n → dst Rm 17 16 k (rho n i) = dst Rc (n + 1) n k i := by
  intro k
  induction k with
  | zero =>
    intro i hi
    unfold dst
    by_cases q : i = n
    · rw [if_pos q, if_pos (by unfold rho; rw [if_pos q])]
    · rw [if_neg q, if_neg (by unfold rho; rw [if_neg q]; omega)]
  | succ k ih =>
    intro i hi
    rw [dst_s, dst_s, ih i hi]
    have e : anyN (fun j => Rm (rho n i) j && decide (dst Rm 17 16 k j = k)) 17 = anyN (fun j => Rc i j && decide (dst Rc (n + 1) n k j = k)) (n + 1) := by
      rw [Bool.eq_iff_iff, anyN_t, anyN_t]
      constructor
      · rintro ⟨y, hy, q⟩
        rw [Bool.and_eq_true] at q
        obtain ⟨j, hj, e⟩ := h2 _ _ q.1
        subst e
        refine ⟨j, by omega, ?_⟩
        rw [← h1 i j hi hj, q.1, ← ih j hj, q.2]
        rfl
      · rintro ⟨j, hj, q⟩
        rw [Bool.and_eq_true] at q
        refine ⟨rho n j, rho_le hn (by omega), ?_⟩
        rw [h1 i j hi (by omega), q.1, ih j (by omega), q.2]
        rfl
    rw [e]
theorem nxN_spec {R : Nat → Nat → Bool} {D : Nat → Nat} {a : Nat} : ∀ b, b ≤ 17 → (nxN R D a b = 17 → ∀ j, j < b → R a j = true → D j = 17) ∧ (nxN R D a b ≠ 17 → nxN R D a b < b ∧ ∀ j, j < b → R a j = true → D j ≠ 17 → D (nxN R D a b) < D j ∨ (D (nxN R D a b) = D j ∧ nxN R D a b ≤ j)) := by
  intro b
  induction b with
  | zero => intro _; exact ⟨fun _ j hj => absurd hj (Nat.not_lt_zero j), fun h => absurd rfl h⟩
  | succ b ih =>
    intro hb
    obtain ⟨i1, i2⟩ := ih (by omega)
    rw [nxN_s]
    split
    · rename_i q
      refine ⟨fun h => by omega, fun _ => ⟨Nat.lt_succ_self b, fun j hj r d => ?_⟩⟩
      by_cases e : j = b
      · rw [e]; exact Or.inr ⟨rfl, Nat.le_refl _⟩
      · rcases q.2.2 with w | w
        · exact absurd (i1 w j (by omega) r) d
        · by_cases z : nxN R D a b = 17
          · exact absurd (i1 z j (by omega) r) d
          · have := (i2 z).2 j (by omega) r d
            omega
    · rename_i q
      refine ⟨fun h j hj r => ?_, fun h => ⟨by have := (i2 h).1; omega, fun j hj r d => ?_⟩⟩
      · by_cases e : j = b
        · subst e
          apply Classical.byContradiction
          intro z
          exact q ⟨r, z, Or.inl h⟩
        · exact i1 h j (by omega) r
      · by_cases e : j = b
        · subst e
          have n1 : ¬ D j < D (nxN R D a j) := fun z => q ⟨r, d, Or.inr z⟩
          have := (i2 h).1
          omega
        · exact (i2 h).2 j (by omega) r d
theorem nxN_uniq {R : Nat → Nat → Bool} {D : Nat → Nat} {a r : Nat} (hr : r < 17) (h1 : R a r = true) (h2 : D r ≠ 17) (h3 : ∀ j, j < 17 → R a j = true → D j ≠ 17 → D r < D j ∨ (D r = D j ∧ r ≤ j)) : nxN R D a 17 = r := by
  obtain ⟨s1, s2⟩ := @nxN_spec R D a 17 (Nat.le_refl _)
  have s : nxN R D a 17 ≠ 17 := fun q => h2 (s1 q r hr h1)
  obtain ⟨t1, t2⟩ := s2 s
  obtain ⟨u1, u2⟩ := nxN_D 17 s
  have a1 := t2 r hr h1 h2
  have a2 := h3 _ t1 u1 u2
  omega
theorem fstN_some {p : Nat → Bool} : ∀ m i, (∃ x, i ≤ x ∧ x < i + m ∧ p x = true) → i ≤ fstN p m i ∧ fstN p m i < i + m ∧ p (fstN p m i) = true ∧ ∀ x, i ≤ x → x < fstN p m i → p x = false := by
  intro m
  induction m with
  | zero => intro i ⟨x, h1, h2, _⟩; omega
  | succ m ih =>
    intro i ⟨x, h1, h2, h3⟩
    unfold fstN
    split
    · rename_i q
      exact ⟨Nat.le_refl _, by omega, q, fun y a b => by omega⟩
    · rename_i q
      have nx : x ≠ i := fun e => q (e ▸ h3)
      obtain ⟨a, b, c, d⟩ := ih (i + 1) ⟨x, by omega, by omega, h3⟩
      refine ⟨by omega, by omega, c, fun y y1 y2 => ?_⟩
      by_cases e : y = i
      · rw [e]; exact Bool.eq_false_iff.mpr q
      · exact d y (by omega) y2
theorem fstN_none {p : Nat → Bool} : ∀ m i, (∀ x, i ≤ x → x < i + m → p x = false) → fstN p m i = i + m := by
  intro m
  induction m with
  | zero => intro i _; rfl
  | succ m ih =>
    intro i h
    unfold fstN
    rw [if_neg (by rw [h i (Nat.le_refl _) (by omega)]; decide), ih (i + 1) (fun x a b => h x (by omega) (by omega))]
    omega
theorem nst_spec {R : Nat → Nat → Bool} {D : Nat → Nat} {l : Nat} (hD : ∀ j, D j ≤ 17) : ∀ i, (∀ j, j < i → R l j = true → nst R D l i ≤ D j) ∧ (nst R D l i ≠ 17 → ∃ j, j < i ∧ R l j = true ∧ D j = nst R D l i) := by
  intro i
  induction i with
  | zero => exact ⟨fun j hj => absurd hj (Nat.not_lt_zero j), fun h => absurd rfl h⟩
  | succ i ih =>
    obtain ⟨i1, i2⟩ := ih
    unfold nst
    by_cases r : R l i = true
    · rw [if_pos r]
      by_cases w : D i < nst R D l i
      · rw [if_pos w]
        refine ⟨fun j hj q => ?_, fun _ => ⟨i, Nat.lt_succ_self i, r, rfl⟩⟩
        by_cases e : j = i
        · rw [e]; exact Nat.le_refl _
        · have := i1 j (by omega) q; omega
      · rw [if_neg w]
        refine ⟨fun j hj q => ?_, fun h => ?_⟩
        · by_cases e : j = i
          · rw [e]; omega
          · exact i1 j (by omega) q
        · obtain ⟨j, a, b, c⟩ := i2 h
          exact ⟨j, by omega, b, c⟩
    · rw [if_neg r]
      refine ⟨fun j hj q => ?_, fun h => ?_⟩
      · by_cases e : j = i
        · rw [e] at q; exact absurd q r
        · exact i1 j (by omega) q
      · obtain ⟨j, a, b, c⟩ := i2 h
        exact ⟨j, by omega, b, c⟩
/-- the way of the Model: its node after t steps -/
def wkM (R : Nat → Nat → Bool) (D : Nat → Nat) : Nat → Nat
  | 0 => 16
  | t + 1 => nxN R D (wkM R D t) 17
/-- one step: from a node whose nearest successors have the distance d -/
theorem rg_step {Rc Rm : Nat → Nat → Bool} {D Dm : Nat → Nat} {n a d : Nat} (hn : n ≤ 16) (h1 : ∀ i j, i ≤ n → j ≤ n → Rm (rho n i) (rho n j) = Rc i j) (h2 : ∀ x y, Rm x y = true → ∃ j, j ≤ n ∧ y = rho n j)
    (hD : ∀ i, i ≤ n → Dm (rho n i) = D i) (ha : a ≤ n) (hd : d ≠ 17) (e1 : ∃ j, j ≤ n ∧ Rc a j = true ∧ D j = d) (e2 : ∀ j, j ≤ n → Rc a j = true → D j ≠ 17 → d ≤ D j) :
    nxN Rm Dm (rho n a) 17 = rho n (fstN (fun j => Rc a j && decide (D j = d)) (n + 1) 0) ∧ fstN (fun j => Rc a j && decide (D j = d)) (n + 1) 0 ≤ n ∧ D (fstN (fun j => Rc a j && decide (D j = d)) (n + 1) 0) = d := by
  obtain ⟨j0, a0, b0, c0⟩ := e1
  obtain ⟨f1, f2, f3, f4⟩ := @fstN_some (fun j => Rc a j && decide (D j = d)) (n + 1) 0 ⟨j0, Nat.zero_le _, by omega, by show (Rc a j0 && decide (D j0 = d)) = true; rw [b0, decide_eq_true c0]; rfl⟩
  generalize fstN (fun j => Rc a j && decide (D j = d)) (n + 1) 0 = f at f1 f2 f3 f4
  rw [Bool.and_eq_true] at f3
  have f5 := of_decide_eq_true f3.2
  refine ⟨nxN_uniq (rho_le hn (by omega)) (by rw [h1 a f ha (by omega)]; exact f3.1) (by rw [hD f (by omega), f5]; exact hd) (fun y hy r z => ?_), by omega, f5⟩
  obtain ⟨j, hj, e⟩ := h2 _ _ r
  subst e
  rw [h1 a j ha hj] at r
  rw [hD j hj] at z ⊢
  rw [hD f (by omega), f5]
  have g := e2 j hj r z
  by_cases w : D j = d
  · refine Or.inr ⟨w.symm, ?_⟩
    have : ¬ j < f := fun q => by
      have := f4 j (Nat.zero_le _) q
      simp only [r, decide_eq_true w, Bool.and_true] at this
      exact absurd this (by decide)
    unfold rho
    split <;> split <;> omega
  · exact Or.inl (by omega)
theorem rg_same {Rc Rm : Nat → Nat → Bool} {n : Nat} (hn : n ≤ 16) (h1 : ∀ i j, i ≤ n → j ≤ n → Rm (rho n i) (rho n j) = Rc i j) (h2 : ∀ x y, Rm x y = true → ∃ j, j ≤ n ∧ y = rho n j) (h3 : Rc n n = false) :
    (rgQ Rc (n + 1) = 0 ∧ nxN Rm (dst Rm 17 16 16) 16 17 = 17) ∨
    (0 < rgQ Rc (n + 1) ∧ rgQ Rc (n + 1) ≤ 16 ∧ (∀ t, t < rgQ Rc (n + 1) → rgN Rc (dst Rc (n + 1) n n) (n + 1) (rgQ Rc (n + 1)) (t + 1) < n ∧ wkM Rm (dst Rm 17 16 16) (t + 1) = rgN Rc (dst Rc (n + 1) n n) (n + 1) (rgQ Rc (n + 1)) (t + 1)) ∧ wkM Rm (dst Rm 17 16 16) (rgQ Rc (n + 1) + 1) = 16) := by
  have hD : ∀ i, i ≤ n → dst Rm 17 16 16 (rho n i) = dst Rc (n + 1) n n i := fun i hi => by
    rw [dst_ren hn h1 h2 16 i hi]
    have := @dst_stab Rc (n + 1) n (by omega) (16 - n) (by omega) i (by omega)
    rw [show n + 1 - 1 + (16 - n) = 16 by omega, show n + 1 - 1 = n by omega] at this
    exact this
  have hD17 : ∀ j, dst Rc (n + 1) n n j ≤ 17 := fun j => by rcases @dst_le Rc (n + 1) n n j with q | q <;> omega
  have hDn : dst Rc (n + 1) n n n = 0 := dst_l n
  have eQ : rgQ Rc (n + 1) = if nst Rc (dst Rc (n + 1) n n) n n = 17 then 0 else nst Rc (dst Rc (n + 1) n n) n n := rfl
  obtain ⟨s1, s2⟩ := @nst_spec Rc (dst Rc (n + 1) n n) n hD17 n
  have nl := @nst_le Rc (dst Rc (n + 1) n n) n n
  generalize nst Rc (dst Rc (n + 1) n n) n n = q at eQ s1 s2 nl
  have r16 : rho n n = 16 := rho_n
  by_cases q17 : q = 17
  · rw [if_pos q17] at eQ
    refine Or.inl ⟨eQ, ?_⟩
    apply Classical.byContradiction
    intro z
    obtain ⟨u1, u2⟩ := nxN_D 17 z
    obtain ⟨j, hj, e⟩ := h2 _ _ u1
    rw [e] at u1 u2
    rw [← r16, h1 n j (Nat.le_refl _) hj] at u1
    rw [hD j hj] at u2
    by_cases w : j = n
    · rw [w, h3] at u1; exact absurd u1 (by decide)
    · have := s1 j (by omega) u1
      have := hD17 j
      omega
  · rw [if_neg q17] at eQ
    rw [eQ]
    obtain ⟨j0, a0, b0, c0⟩ := s2 q17
    have q0 : 0 < q := by
      rcases Nat.eq_zero_or_pos q with z | z
      · rw [z] at c0
        have := dst_0 c0
        omega
      · exact z
    have walk : ∀ t, t < q → rgN Rc (dst Rc (n + 1) n n) (n + 1) q (t + 1) < n ∧ wkM Rm (dst Rm 17 16 16) (t + 1) = rgN Rc (dst Rc (n + 1) n n) (n + 1) q (t + 1) ∧ dst Rc (n + 1) n n (rgN Rc (dst Rc (n + 1) n n) (n + 1) q (t + 1)) = q - t := by
      intro t
      induction t with
      | zero =>
        intro _
        obtain ⟨g1, g2, g3⟩ := rg_step (Rm := Rm) (D := dst Rc (n + 1) n n) (Dm := dst Rm 17 16 16) (a := n) (d := q) hn h1 h2 hD (Nat.le_refl _) q17 ⟨j0, by omega, b0, c0⟩ (fun j hj r z => by
          by_cases w : j = n
          · rw [w, h3] at r; exact absurd r (by decide)
          · exact s1 j (by omega) r)
        have e : rgN Rc (dst Rc (n + 1) n n) (n + 1) q (0 + 1) = fstN (fun j => Rc n j && decide (dst Rc (n + 1) n n j = q)) (n + 1) 0 := by
          show lowB Rc (dst Rc (n + 1) n n) (n + 1) (n + 1 - 1) (q - 0) = _
          unfold lowB
          rw [show n + 1 - 1 = n by omega, Nat.sub_zero, if_neg (by omega)]
        rw [e]
        have ne : fstN (fun j => Rc n j && decide (dst Rc (n + 1) n n j = q)) (n + 1) 0 ≠ n := fun w => by rw [w, hDn] at g3; omega
        refine ⟨by omega, ?_, g3⟩
        show nxN Rm (dst Rm 17 16 16) 16 17 = _
        rw [r16] at g1
        rw [g1, rho_lt (by omega)]
      | succ t ih =>
        intro ht
        obtain ⟨w1, w2, w3⟩ := ih (by omega)
        generalize ea : rgN Rc (dst Rc (n + 1) n n) (n + 1) q (t + 1) = a at w1 w2 w3
        have da : dst Rc (n + 1) n n a = (q - (t + 1)) + 1 := by omega
        have vl := (dst_val (R := Rc) (N := n + 1) (l := n) n a (by omega)).1
        obtain ⟨g1, g2, g3⟩ := rg_step (Rm := Rm) (D := dst Rc (n + 1) n n) (Dm := dst Rm 17 16 16) (a := a) (d := q - (t + 1)) hn h1 h2 hD (by omega) (by omega) (by
          obtain ⟨j, x1, x2, x3⟩ := dst_T1 da (by omega) hn
          exact ⟨j, by omega, x2, x3⟩) (fun j hj r z => by
          apply Classical.byContradiction
          intro y
          have := dst_T2 (l := n) (N := n + 1) (M := n) (by omega : j < n + 1) r rfl (by omega) hn
          omega)
        have e : lowB Rc (dst Rc (n + 1) n n) (n + 1) a (q - (t + 1)) = fstN (fun j => Rc a j && decide (dst Rc (n + 1) n n j = q - (t + 1))) (n + 1) 0 := by
          unfold lowB
          rw [if_neg (by omega)]
        have e2 : rgN Rc (dst Rc (n + 1) n n) (n + 1) q (t + 1 + 1) = lowB Rc (dst Rc (n + 1) n n) (n + 1) (rgN Rc (dst Rc (n + 1) n n) (n + 1) q (t + 1)) (q - (t + 1)) := rfl
        rw [e2, ea, e]
        have ne : fstN (fun j => Rc a j && decide (dst Rc (n + 1) n n j = q - (t + 1))) (n + 1) 0 ≠ n := fun w => by rw [w, hDn] at g3; omega
        refine ⟨by omega, ?_, g3⟩
        show nxN Rm (dst Rm 17 16 16) (wkM Rm (dst Rm 17 16 16) (t + 1)) 17 = _
        have : wkM Rm (dst Rm 17 16 16) (t + 1) = rho n a := by rw [w2, rho_lt w1]
        rw [this, g1, rho_lt (by omega)]
    refine Or.inr ⟨q0, by omega, fun t ht => ⟨(walk t ht).1, (walk t ht).2.1⟩, ?_⟩
    obtain ⟨w1, w2, w3⟩ := walk (q - 1) (by omega)
    rw [show q - 1 + 1 = q by omega] at w1 w2 w3
    generalize rgN Rc (dst Rc (n + 1) n n) (n + 1) q q = a at w1 w2 w3
    have da : dst Rc (n + 1) n n a = 0 + 1 := by omega
    obtain ⟨g1, g2, g3⟩ := rg_step (Rm := Rm) (D := dst Rc (n + 1) n n) (Dm := dst Rm 17 16 16) (a := a) (d := 0) hn h1 h2 hD (by omega) (by omega) (by
      obtain ⟨j, x1, x2, x3⟩ := dst_T1 da (by omega) hn
      exact ⟨j, by omega, x2, x3⟩) (fun j hj r z => Nat.zero_le _)
    show nxN Rm (dst Rm 17 16 16) (wkM Rm (dst Rm 17 16 16) q) 17 = 16
    rw [w2, ← rho_lt w1, g1, dst_0 g3, rho_n]
