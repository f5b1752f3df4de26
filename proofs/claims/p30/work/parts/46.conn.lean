/-! ===== the law's distances and the class's ===== -/
def sh (R : Nat → Nat → Bool) (a b : Nat) : Bool := (decide (1 ≤ a) && decide (1 ≤ b)) && R (a - 1) (b - 1)
theorem sh_t {R : Nat → Nat → Bool} {a b : Nat} : sh R a b = true ↔ 1 ≤ a ∧ 1 ≤ b ∧ R (a - 1) (b - 1) = true := by
  unfold sh
  rw [Bool.and_eq_true, Bool.and_eq_true, decide_eq_true_iff, decide_eq_true_iff, and_assoc]
theorem sh_ss {R : Nat → Nat → Bool} {i j : Nat} : sh R (i + 1) (j + 1) = true ↔ R i j = true := by
  rw [sh_t, Nat.add_sub_cancel, Nat.add_sub_cancel]
  exact ⟨fun h => h.2.2, fun h => ⟨by omega, by omega, h⟩⟩
/-- a way to the goal is a way of the class -/
theorem WL_A {R : Nat → Nat → Bool} {n l : Nat} (hl : l < n) (hR : ∀ x y, R x y = true → x < n ∧ y < n) : ∀ k i, WL (sh R) (l + 1) k (i + 1) → Wk R n i l ∧ (k ≤ 16 → dst R n l k i ≠ 17) := by
  intro k
  induction k with
  | zero => intro i h; exact h.elim
  | succ k ih =>
    intro i h
    rcases WL_s.mp h with ⟨k0, q⟩ | ⟨y, y1, y2, y3, y4⟩
    · have q := sh_ss.mp q
      refine ⟨Wk.one q, fun _ => ?_⟩
      rw [k0]
      exact dst_clos hl q 0 (by omega) (by rw [dst_l]; omega)
    · have ey : y = y - 1 + 1 := by omega
      rw [ey] at y3 y4
      have q := sh_ss.mp y3
      obtain ⟨a, b⟩ := ih (y - 1) y4
      exact ⟨Wk.cons q (hR _ _ q).2 a, fun hk => dst_clos (hR _ _ q).2 q k (by omega) (b (by omega))⟩
theorem WL_le {R : Nat → Nat → Bool} {n l k i : Nat} (hn : n ≤ 16) (hl : l < n) (hR : ∀ x y, R x y = true → x < n ∧ y < n) (hi : i < n) (h : WL (sh R) (l + 1) k (i + 1)) : dst R n l (n - 1) i ≠ 17 ∧ dst R n l (n - 1) i ≤ k := by
  obtain ⟨a, b⟩ := WL_A hl hR k i h
  have d17 := Wk_dst hn hl a hi
  refine ⟨d17, ?_⟩
  rcases @dst_le R n l (n - 1) i with q | q
  · by_cases k16 : k ≤ 16
    · have b := b k16
      have dk : dst R n l k i ≤ k := by rcases @dst_le R n l k i with z | z; exact z; exact absurd z b
      have e1 : dst R n l 16 i = dst R n l k i := by
        have := dst_up b (16 - k)
        rw [show k + (16 - k) = 16 by omega] at this
        exact this
      have e2 : dst R n l 16 i = dst R n l (n - 1) i := by
        have := @dst_stab R n l hl (16 - (n - 1)) (by omega) i hi
        rw [show n - 1 + (16 - (n - 1)) = 16 by omega] at this
        exact this
      rw [← e2, e1]
      exact dk
    · omega
  · exact absurd q d17
theorem WL_B {R : Nat → Nat → Bool} {n l : Nat} (hn : n ≤ 16) : ∀ k i, k ≤ 16 → dst R n l k i ≠ 17 → ¬ i = l → WL (sh R) (l + 1) (dst R n l k i) (i + 1) := by
  intro k
  induction k with
  | zero =>
    intro i _ h hi
    unfold dst at h
    rw [if_neg hi] at h
    exact absurd rfl h
  | succ k ih =>
    intro i hk h hi
    rw [dst_s] at h ⊢
    by_cases q : dst R n l k i = 17 ∧ anyN (fun j => R i j && decide (dst R n l k j = k)) n = true
    · rw [if_pos q]
      obtain ⟨j, hj, z⟩ := anyN_t.mp q.2
      rw [Bool.and_eq_true, decide_eq_true_iff] at z
      by_cases jl : j = l
      · rw [jl, dst_l] at z
        exact Or.inl ⟨z.2.symm, sh_ss.mpr z.1⟩
      · refine Or.inr ⟨j + 1, by omega, by omega, sh_ss.mpr z.1, ?_⟩
        have := ih j (by omega) (by rw [z.2]; omega) jl
        rw [z.2] at this
        exact this
    · rw [if_neg q] at h ⊢
      exact ih i (by omega) h hi
/-- the distances that the law finds -/
theorem st_M1 {R : Nat → Nat → Bool} {n l : Nat} {D : Nat → Nat} (hn : n ≤ 16) (hl : l < n) (hR : ∀ x y, R x y = true → x < n ∧ y < n) (S : stO (sh R) (l + 1) D) {i : Nat} (hi : i < n) (il : ¬ i = l) :
    D (i + 1) = if dst R n l (n - 1) i = 17 then 99 else dst R n l (n - 1) i := by
  obtain ⟨s1, s2, s3⟩ := S
  have b := s1 (i + 1)
  have lo : D (i + 1) < 99 → dst R n l (n - 1) i ≠ 17 ∧ dst R n l (n - 1) i ≤ D (i + 1) := fun h => WL_le hn hl hR hi (s2 (i + 1) (by omega) (by omega) h)
  by_cases q : dst R n l (n - 1) i = 17
  · rw [if_pos q]
    by_cases z : D (i + 1) < 99
    · exact absurd q (lo z).1
    · omega
  · rw [if_neg q]
    have w := WL_B hn (n - 1) i (by omega) q il
    have d16 : dst R n l (n - 1) i ≤ n - 1 := by rcases @dst_le R n l (n - 1) i with z | z; exact z; exact absurd z q
    have u := s3 (i + 1) _ (by omega) (by omega) w (by omega)
    have := (lo (by omega)).2
    omega
theorem st_M2 {R : Nat → Nat → Bool} {n l : Nat} {D : Nat → Nat} (hn : n ≤ 16) (hl : l < n) (hR : ∀ x y, R x y = true → x < n ∧ y < n) (hI : R l l = false) (S : stO (sh R) (l + 1) D) :
    (∀ k, (∀ j, j < n → R l j = true → dst R n l (n - 1) j ≠ 17 → k ≤ dst R n l (n - 1) j) → D (l + 1) < 99 → k + 1 ≤ D (l + 1)) ∧ (∀ j, j < n → R l j = true → dst R n l (n - 1) j ≠ 17 → D (l + 1) ≤ dst R n l (n - 1) j + 1) ∧ (D (l + 1) < 99 → ∃ j, j < n ∧ R l j = true ∧ dst R n l (n - 1) j ≠ 17) := by
  obtain ⟨s1, s2, s3⟩ := S
  have dec : D (l + 1) < 99 → ∃ j k, j < n ∧ R l j = true ∧ D (l + 1) = k + 1 ∧ dst R n l (n - 1) j ≠ 17 ∧ dst R n l (n - 1) j ≤ k := by
    intro h
    have w := s2 (l + 1) (by omega) (by omega) h
    cases e : D (l + 1) with
    | zero => rw [e] at w; exact w.elim
    | succ k =>
      rw [e] at w
      rcases WL_s.mp w with ⟨_, q⟩ | ⟨y, y1, y2, y3, y4⟩
      · rw [sh_ss, hI] at q; exact absurd q (by decide)
      · have ey : y = y - 1 + 1 := by omega
        rw [ey] at y3 y4
        have q := sh_ss.mp y3
        have hj := (hR _ _ q).2
        obtain ⟨a, b⟩ := WL_le hn hl hR hj y4
        exact ⟨y - 1, k, hj, q, rfl, a, b⟩
  refine ⟨fun k hk h => ?_, fun j hj q d => ?_, fun h => ?_⟩
  · obtain ⟨j, m, a1, a2, a3, a4, a5⟩ := dec h
    have := hk j a1 a2 a4
    omega
  · by_cases jl : j = l
    · rw [jl, hI] at q; exact absurd q (by decide)
    · have w := WL_B hn (n - 1) j (by omega) d jl
      have d16 : dst R n l (n - 1) j ≤ n - 1 := by rcases @dst_le R n l (n - 1) j with z | z; exact z; exact absurd z d
      exact s3 (l + 1) (dst R n l (n - 1) j + 1) (by omega) (by omega) (Or.inr ⟨j + 1, by omega, by omega, sh_ss.mpr q, w⟩) (by omega)
  · obtain ⟨j, m, a1, a2, a3, a4, a5⟩ := dec h
    exact ⟨j, a1, a2, a4⟩
/-- is there a ring of the goal? -/
theorem st_ring {R : Nat → Nat → Bool} {n l : Nat} {D : Nat → Nat} (hn : n ≤ 16) (hl : l < n) (hR : ∀ x y, R x y = true → x < n ∧ y < n) (hI : R l l = false) (S : stO (sh R) (l + 1) D) : D (l + 1) < 99 ↔ wal R n l l = true := by
  obtain ⟨_, m2, m3⟩ := st_M2 hn hl hR hI S
  rw [ring_iff hn hl (fun a b h => (hR a b h).2)]
  constructor
  · exact m3
  · rintro ⟨b, hb, q, d⟩
    have := m2 b hb q d
    have d16 : dst R n l (n - 1) b ≤ n - 1 := by rcases @dst_le R n l (n - 1) b with z | z; exact z; exact absurd z d
    omega
/-- the ring of the transaction, the last node -/
theorem st_rgQ {R : Nat → Nat → Bool} {c : Nat} {D : Nat → Nat} (hc : c ≤ 15) (hR : ∀ x y, R x y = true → x < c + 1 ∧ y < c + 1) (hI : R c c = false) (S : stO (sh R) (c + 1) D) : D (c + 1) = (if rgQ R (c + 1) = 0 then 99 else rgQ R (c + 1) + 1) ∧ rgQ R (c + 1) ≤ 15 := by
  obtain ⟨m1, m2, m3⟩ := st_M2 (n := c + 1) (by omega) (Nat.lt_succ_self c) hR hI S
  have s1 := S.1 (c + 1)
  have e : c + 1 - 1 = c := Nat.add_sub_cancel c 1
  rw [e] at m1 m2 m3
  have d17 : ∀ j, dst R (c + 1) c c j ≤ 17 := fun j => by rcases @dst_le R (c + 1) c c j with z | z <;> omega
  have dc : ∀ j, dst R (c + 1) c c j ≠ 17 → dst R (c + 1) c c j ≤ c := fun j h => by rcases @dst_le R (c + 1) c c j with z | z; exact z; exact absurd z h
  obtain ⟨u1, u2⟩ := @nst_spec R (dst R (c + 1) c c) c d17 c
  unfold rgQ
  rw [e]
  by_cases q : nst R (dst R (c + 1) c c) c c = 17
  · rw [if_pos q, if_pos rfl]
    refine ⟨?_, by omega⟩
    by_cases z : D (c + 1) < 99
    · obtain ⟨j, j1, j2, j3⟩ := m3 z
      have jc : j ≠ c := fun z => by rw [z, hI] at j2; exact absurd j2 (by decide)
      have := u1 j (by omega) j2
      have := dc j j3
      omega
    · omega
  · rw [if_neg q]
    obtain ⟨j, j1, j2, j3⟩ := u2 q
    have jn : dst R (c + 1) c c j ≠ 17 := by rw [j3]; exact q
    have n0 : ¬ nst R (dst R (c + 1) c c) c c = 0 := fun z => by
      rw [z] at j3
      have := dst_0 j3
      omega
    rw [if_neg n0]
    have a1 := m2 j (by omega) j2 jn
    have b1 := dc j jn
    rw [j3] at a1 b1
    refine ⟨?_, by omega⟩
    have a2 := m1 (nst R (dst R (c + 1) c c) c c) (fun j hj h d => by
      have jc : j ≠ c := fun z => by rw [z, hI] at h; exact absurd h (by decide)
      exact u1 j (by omega) h) (by omega)
    omega
/-- the way round -/
theorem rg_nxt {R : Nat → Nat → Bool} {c : Nat} (hc : c ≤ 15) (hR : ∀ x y, R x y = true → x < c + 1 ∧ y < c + 1) (hI : R c c = false) : ∀ t, t < rgQ R (c + 1) →
    rgN R (dst R (c + 1) c c) (c + 1) (rgQ R (c + 1)) (t + 1) < c ∧ R (rgN R (dst R (c + 1) c c) (c + 1) (rgQ R (c + 1)) t) (rgN R (dst R (c + 1) c c) (c + 1) (rgQ R (c + 1)) (t + 1)) = true ∧ dst R (c + 1) c c (rgN R (dst R (c + 1) c c) (c + 1) (rgQ R (c + 1)) (t + 1)) = rgQ R (c + 1) - t ∧
    ∀ j, j < rgN R (dst R (c + 1) c c) (c + 1) (rgQ R (c + 1)) (t + 1) → ¬ (R (rgN R (dst R (c + 1) c c) (c + 1) (rgQ R (c + 1)) t) j = true ∧ dst R (c + 1) c c j = rgQ R (c + 1) - t) := by
  have d17 : ∀ j, dst R (c + 1) c c j ≤ 17 := fun j => by rcases @dst_le R (c + 1) c c j with z | z <;> omega
  have e : c + 1 - 1 = c := Nat.add_sub_cancel c 1
  have key : ∀ a q, 1 ≤ q → (∃ j, j < c + 1 ∧ R a j = true ∧ dst R (c + 1) c c j = q) → lowB R (dst R (c + 1) c c) (c + 1) a q < c ∧ R a (lowB R (dst R (c + 1) c c) (c + 1) a q) = true ∧ dst R (c + 1) c c (lowB R (dst R (c + 1) c c) (c + 1) a q) = q ∧ ∀ j, j < lowB R (dst R (c + 1) c c) (c + 1) a q → ¬ (R a j = true ∧ dst R (c + 1) c c j = q) := by
    rintro a q hq ⟨j, j1, j2, j3⟩
    obtain ⟨_, f2, f3, f4⟩ := @fstN_some (fun j => R a j && decide (dst R (c + 1) c c j = q)) (c + 1) 0 ⟨j, Nat.zero_le _, by omega, by rw [Bool.and_eq_true, decide_eq_true_iff]; exact ⟨j2, j3⟩⟩
    rw [Bool.and_eq_true, decide_eq_true_iff] at f3
    unfold lowB
    rw [if_neg (by omega)]
    refine ⟨?_, f3.1, f3.2, fun j hj h => ?_⟩
    · have : fstN (fun j => R a j && decide (dst R (c + 1) c c j = q)) (c + 1) 0 ≠ c := fun z => by
        have h2 := f3.2
        rw [z, dst_l] at h2
        omega
      omega
    · have := f4 j (Nat.zero_le _) hj
      rw [Bool.and_eq_false_iff, decide_eq_false_iff_not] at this
      rcases this with z | z
      · rw [h.1] at z; exact absurd z (by decide)
      · exact z h.2
  have hq0 : ∀ (q : Nat), q = rgQ R (c + 1) → 0 < q → ∃ j, j < c ∧ R c j = true ∧ dst R (c + 1) c c j = q := by
    intro q hq h0
    unfold rgQ at hq
    rw [e] at hq
    by_cases z : nst R (dst R (c + 1) c c) c c = 17
    · rw [if_pos z] at hq; omega
    · rw [if_neg z] at hq
      obtain ⟨j, j1, j2, j3⟩ := (@nst_spec R (dst R (c + 1) c c) c d17 c).2 z
      exact ⟨j, j1, j2, by rw [j3, hq]⟩
  intro t
  induction t with
  | zero =>
    intro ht
    obtain ⟨j, j1, j2, j3⟩ := hq0 _ rfl ht
    exact key c (rgQ R (c + 1) - 0) ht ⟨j, by omega, j2, j3⟩
  | succ t ih =>
    intro ht
    obtain ⟨a1, a2, a3, _⟩ := ih (by omega)
    have le := dst_le (R := R) (n := c + 1) (l := c) c (rgN R (dst R (c + 1) c c) (c + 1) (rgQ R (c + 1)) (t + 1))
    have q16 : rgQ R (c + 1) - t ≤ 17 := by rw [← a3]; exact d17 _
    have hne : rgQ R (c + 1) - t ≠ 17 := fun z => by
      obtain ⟨j, j1, j2, j3⟩ := hq0 _ rfl (by omega)
      rcases dst_le (R := R) (n := c + 1) (l := c) c j with y | y
      · omega
      · unfold rgQ at j3
        rw [e] at j3
        by_cases w : nst R (dst R (c + 1) c c) c c = 17
        · rw [if_pos w] at j3; omega
        · rw [if_neg w] at j3
          exact w (by omega)
    obtain ⟨j, j1, j2, j3⟩ := dst_T1 (M := c) (d := rgQ R (c + 1) - (t + 1)) (a3.trans (by omega)) (by omega) (by omega)
    exact key _ _ (by omega) ⟨j, j1, j2, j3⟩
