/-! ===== class and Model: each change keeps the relation ===== -/
theorem cpV_n {σ : sn_V} {a s d t n j k : Nat} (h : ¬ (j = d ∧ t ≤ k ∧ k < t + n)) : cpV σ a s d t n j k = σ j k := if_neg h
theorem cpV_y {σ : sn_V} {a s d t n k : Nat} (h : t ≤ k ∧ k < t + n) : cpV σ a s d t n d k = σ a (s + (k - t)) := if_pos ⟨rfl, h⟩
/-- masks of few bits -/
theorem bt_hi {w K : Nat} (hK : K ≤ 31) (h : w < 2 ^ K) {j : Nat} (hj : K ≤ j) : bt (nI w) j = false := by
  rcases Nat.lt_or_ge j 32 with q | q
  · show (BitVec.ofNat 32 w).getLsbD j = false
    rw [BitVec.getLsbD_ofNat]
    have : w < 2 ^ j := Nat.lt_of_lt_of_le h (Nat.pow_le_pow_right (by omega) hj)
    rw [Nat.testBit_lt_two_pow this, Bool.and_false]
  · exact b_big q
theorem bt_lo {x : Int32} {K : Nat} (hK : K ≤ 30) (h : ∀ j, K ≤ j → j < 32 → bt x j = false) : ∃ w, w < 2 ^ K ∧ x = nI w := by
  refine ⟨x.toBitVec.toNat, ?_, ?_⟩
  · have : x.toBitVec.toNat < 2 ^ K := by
      refine Nat.lt_pow_two_of_testBit _ (fun j hj => ?_)
      rcases Nat.lt_or_ge j 32 with q | q
      · exact h j hj q
      · exact b_big q
    exact this
  · show x = Int32.ofNat x.toBitVec.toNat
    refine Int32.toBitVec_inj.mp ?_
    show x.toBitVec = BitVec.ofNat 32 x.toBitVec.toNat
    rw [BitVec.ofNat_toNat, BitVec.setWidth_eq]
theorem m_put {K w k : Nat} (hK : K ≤ 30) (hw : w < 2 ^ K) (hk : k < K) : ∃ w', w' < 2 ^ K ∧ nI w ||| (nI 1 <<< (nI k &&& 31)) = nI w' :=
  bt_lo hK (fun j h1 h2 => by rw [b_or, bt_hi (by omega) hw h1, bt_s1 k (by omega) h2, decide_eq_false (by omega)]; rfl)
theorem m_clr {K w k : Nat} (hK : K ≤ 30) (hw : w < 2 ^ K) : ∃ w', w' < 2 ^ K ∧ nI w &&& ((nI 1 <<< (nI k &&& 31)) ^^^ -(nI 1)) = nI w' :=
  bt_lo hK (fun j h1 h2 => by rw [b_and, bt_hi (by omega) hw h1]; rfl)
theorem RowR.cg {σ σ' : sn_V} {a a' : Nat → Int32} {r r' z z' : Nat} (R : RowR σ a r z) (h6 : σ' 6 r' = σ 6 r) (h7 : σ' 7 r' = σ 7 r) (h8 : σ' 8 r' = σ 8 r) (h9 : ∀ k, k < 12 → σ' 9 (r' * 12 + k) = σ 9 (r * 12 + k)) (hz : ∀ j, j < 15 → a' (z' + j) = a (z + j)) : RowR σ' a' r' z' := by
  obtain ⟨a0, a1, a2, a3⟩ := R
  refine ⟨?_, ?_, ?_, fun k hk => ?_⟩
  · rw [h6, ← a0]; exact hz 0 (by omega)
  · rw [h7, ← a1]; exact hz 1 (by omega)
  · rw [h8, ← a2]; exact hz 2 (by omega)
  · rw [h9 k hk, ← a3 k hk, Nat.add_assoc z', Nat.add_assoc z]; exact hz (3 + k) (by omega)
theorem SlotR.cg {σ σ' : sn_V} {a a' : Nat → Int32} {i : Nat} (R : SlotR σ a i) (hb : bitP (σ' 0 3) i ↔ bitP (σ 0 3) i) (h6 : σ' 6 i = σ 6 i) (h7 : σ' 7 i = σ 7 i) (h8 : σ' 8 i = σ 8 i) (h9 : ∀ k, k < 12 → σ' 9 (i * 12 + k) = σ 9 (i * 12 + k)) (h10 : ∀ k, k < 12 → σ' 10 (i * 12 + k) = σ 10 (i * 12 + k))
    (hz : ∀ j, j < 40 → a' (36 + 40 * i + j) = a (36 + 40 * i + j)) : SlotR σ' a' i := by
  obtain ⟨r1, r2⟩ := R
  refine ⟨?_, fun q => ?_⟩
  · rw [hz 39 (by omega), r1]
    by_cases q : bitP (σ 0 3) i
    · rw [decide_eq_true q, decide_eq_true (hb.mpr q)]
    · rw [decide_eq_false q, decide_eq_false (fun z => q (hb.mp z))]
  · obtain ⟨s1, s2, s3⟩ := r2 (hb.mp q)
    refine ⟨s1.cg h6 h7 h8 h9 (fun j hj => hz j (by omega)), by rw [h8]; exact s2, fun k hk => ?_⟩
    have e1 : a' (36 + 40 * i + 27 + k) = a (36 + 40 * i + 27 + k) := by
      have z := hz (27 + k) (by omega)
      rw [← Nat.add_assoc] at z
      exact z
    have e2 : a' (36 + 40 * i + 15 + k) = a (36 + 40 * i + 15 + k) := by
      have z := hz (15 + k) (by omega)
      rw [← Nat.add_assoc] at z
      exact z
    rw [h10 k hk, h8, s3 k hk, e1, e2]
/-- a free slot -/
theorem SlotR.free {σ' : sn_V} {a' : Nat → Int32} {i : Nat} (hb : ¬ bitP (σ' 0 3) i) (hz : a' (36 + 40 * i + 39) = nI 0) : SlotR σ' a' i := ⟨by rw [hz, decide_eq_false hb]; rfl, fun q => absurd q hb⟩
theorem rl_begin {c i : Nat} {σ : sn_V} {a a' : Nat → Int32} (R : Rel c σ a) (hi : i < 8) (f0 : ∀ j, ¬ (36 + 40 * i ≤ j ∧ j < 36 + 40 * i + 40) → a' j = a j) (f1 : a' (36 + 40 * i + 39) = nI 1) (f2 : a' (36 + 40 * i) = a 0) (f3 : a' (36 + 40 * i + 1) = nI 0) (f4 : a' (36 + 40 * i + 2) = nI 0)
    (f5 : ∀ k, k < 12 → a' (36 + 40 * i + 3 + k) = a (24 + k)) (f6 : ∀ k, k < 12 → a' (36 + 40 * i + 15 + k) = a (12 + k)) : Rel c (fStart σ i) a' := by
  have g : ∀ j k, ¬ (j = 0 ∧ k = 3) → ¬ (j = 6 ∧ k = i) → ¬ (j = 7 ∧ k = i) → ¬ (j = 8 ∧ k = i) → ¬ (j = 9 ∧ i * 12 ≤ k ∧ k < i * 12 + 12) → ¬ (j = 10 ∧ i * 12 ≤ k ∧ k < i * 12 + 12) → fStart σ i j k = σ j k := fun j k p1 p2 p3 p4 p5 p6 => by
    unfold fStart
    rw [cpV_n p6, cpV_n p5, up_n p4, up_n p3, up_n p2, up_n p1]
  have g3 : fStart σ i 0 3 = σ 0 3 ||| (nI 1 <<< (nI i &&& 31)) := by unfold fStart; rw [cpV_n (by omega), cpV_n (by omega), up_n (by omega), up_n (by omega), up_n (by omega), up_s]
  have g6 : fStart σ i 6 i = σ 0 1 := by unfold fStart; rw [cpV_n (by omega), cpV_n (by omega), up_n (by omega), up_n (by omega), up_s]
  have g7 : fStart σ i 7 i = nI 0 := by unfold fStart; rw [cpV_n (by omega), cpV_n (by omega), up_n (by omega), up_s]
  have g8 : fStart σ i 8 i = nI 0 := by unfold fStart; rw [cpV_n (by omega), cpV_n (by omega), up_s]
  have g9 : ∀ k, k < 12 → fStart σ i 9 (i * 12 + k) = σ 5 k := fun k hk => by
    unfold fStart
    rw [cpV_n (by omega), cpV_y (by omega), up_n (by omega), up_n (by omega), up_n (by omega), up_n (by omega)]
    exact congrArg (σ 5) (by omega)
  have g10 : ∀ k, k < 12 → fStart σ i 10 (i * 12 + k) = σ 4 k := fun k hk => by
    unfold fStart
    rw [cpV_y (by omega), cpV_n (by omega), up_n (by omega), up_n (by omega), up_n (by omega), up_n (by omega)]
    exact congrArg (σ 4) (by omega)
  obtain ⟨⟨r1, r1'⟩, ⟨p, p1, p2, p3⟩, r3, r4, r5, r6, ⟨w, w1, w2⟩, r8, r9⟩ := R
  refine ⟨⟨by rw [g 0 1 (by omega) (by omega) (by omega) (by omega) (by omega) (by omega)]; exact r1, by rw [f0 0 (by omega)]; exact r1'⟩, ⟨p, p1, by rw [g 0 0 (by omega) (by omega) (by omega) (by omega) (by omega) (by omega)]; exact p2, by rw [f0 1 (by omega)]; exact p3⟩,
    fun r hr => by rw [f0 _ (by omega), g 1 _ (by omega) (by omega) (by omega) (by omega) (by omega) (by omega)]; exact r3 r hr, by rw [f0 5 (by omega), g 0 2 (by omega) (by omega) (by omega) (by omega) (by omega) (by omega)]; exact r4,
    fun q hq => ⟨by rw [f0 _ (by omega), g 2 _ (by omega) (by omega) (by omega) (by omega) (by omega) (by omega)]; exact (r5 q hq).1, by rw [f0 _ (by omega), g 3 _ (by omega) (by omega) (by omega) (by omega) (by omega) (by omega)]; exact (r5 q hq).2⟩,
    fun k hk => ⟨by rw [f0 _ (by omega), g 4 _ (by omega) (by omega) (by omega) (by omega) (by omega) (by omega)]; exact (r6 k hk).1, by rw [f0 _ (by omega), g 5 _ (by omega) (by omega) (by omega) (by omega) (by omega) (by omega)]; exact (r6 k hk).2⟩,
    by rw [g3, w2]; exact m_put (K := 8) (by omega) w1 hi, fun x hx => ?_, fun n h1 h2 h3 => ?_⟩
  · by_cases e : x = i
    · subst e
      have hb : bitP (fStart σ x 0 3) x := by rw [g3, bitP_put (by omega) (by omega)]; exact Or.inr rfl
      refine ⟨by rw [f1, decide_eq_true hb]; rfl, fun _ => ⟨⟨by rw [f2, g6, r1, r1'], by rw [f3, g7], by rw [f4, g8], fun k hk => by rw [f5 k hk, g9 k hk]; exact (r6 k hk).2⟩, ⟨0, by omega, g8⟩, fun k hk => ?_⟩⟩
      rw [g10 k hk, g8, if_neg (bitP_n0 (by omega)), f6 k hk]
      exact ((r6 k hk).1).symm
    · refine (r8 x hx).cg ?_ (g 6 x (by omega) (by omega) (by omega) (by omega) (by omega) (by omega)) (g 7 x (by omega) (by omega) (by omega) (by omega) (by omega) (by omega)) (g 8 x (by omega) (by omega) (by omega) (by omega) (by omega) (by omega)) (fun k hk => g 9 _ (by omega) (by omega) (by omega) (by omega) (by omega) (by omega)) (fun k hk => g 10 _ (by omega) (by omega) (by omega) (by omega) (by omega) (by omega)) (fun j hj => f0 _ (by omega))
      rw [g3, bitP_put (by omega) (by omega)]
      exact ⟨fun z => z.resolve_right e, Or.inl⟩
  · exact (r9 n h1 h2 h3).cg (g 6 _ (by omega) (by omega) (by omega) (by omega) (by omega) (by omega)) (g 7 _ (by omega) (by omega) (by omega) (by omega) (by omega) (by omega)) (g 8 _ (by omega) (by omega) (by omega) (by omega) (by omega) (by omega)) (fun k hk => g 9 _ (by omega) (by omega) (by omega) (by omega) (by omega) (by omega)) (fun j hj => f0 _ (by omega))
/-- a change of the numbers that no slot and no kept commit knows of -/
theorem rl_same {c : Nat} {σ σ' : sn_V} {a a' : Nat → Int32} (R : Rel c σ a) (h1 : σ' 0 1 = σ 0 1 ∧ a' 0 = a 0) (h2 : ∃ p, p < 3 ∧ σ' 0 0 = nI p ∧ a' 1 = nI p) (h3 : ∀ r, r < 3 → a' (2 + r) = σ' 1 (r + 1)) (h4 : a' 5 = σ' 0 2) (h5 : ∀ q, q < 3 → a' (6 + 2 * q) = σ' 2 q ∧ a' (7 + 2 * q) = σ' 3 q)
    (h6 : ∀ j k, 4 ≤ j → σ' j k = σ j k) (h7 : σ' 0 3 = σ 0 3) (h8 : ∀ j, 12 ≤ j → a' j = a j) : Rel c σ' a' := by
  obtain ⟨⟨r1, r1'⟩, _, _, _, _, r6, ⟨w, w1, w2⟩, r8, r9⟩ := R
  refine ⟨⟨by rw [h1.1]; exact r1, by rw [h1.2]; exact r1'⟩, h2, h3, h4, h5, fun k hk => ⟨by rw [h8 _ (by omega), h6 4 k (by omega)]; exact (r6 k hk).1, by rw [h8 _ (by omega), h6 5 k (by omega)]; exact (r6 k hk).2⟩, ⟨w, w1, by rw [h7]; exact w2⟩, fun i hi => ?_, fun n a1 a2 a3 => ?_⟩
  · exact (r8 i hi).cg (by rw [h7]) (h6 6 _ (by omega)) (h6 7 _ (by omega)) (h6 8 _ (by omega)) (fun k _ => h6 9 _ (by omega)) (fun k _ => h6 10 _ (by omega)) (fun j hj => h8 _ (by omega))
  · exact (r9 n a1 a2 a3).cg (h6 6 _ (by omega)) (h6 7 _ (by omega)) (h6 8 _ (by omega)) (fun k _ => h6 9 _ (by omega)) (fun j hj => h8 _ (by omega))
theorem rl_policy {c p : Nat} {σ : sn_V} {a : Nat → Int32} (R : Rel c σ a) (hp : p < 3) : Rel c (up σ 0 0 (nI p)) (uA a 1 (nI p)) := by
  have R' := R
  obtain ⟨_, _, r3, r4, r5, _⟩ := R
  exact rl_same R' ⟨up_n (by omega), uA_n (by omega)⟩ ⟨p, hp, up_s, uA_s⟩ (fun r hr => by rw [uA_n (by omega), up_n (by omega)]; exact r3 r hr) (by rw [uA_n (by omega), up_n (by omega)]; exact r4) (fun q hq => by rw [uA_n (by omega), uA_n (by omega), up_n (by omega), up_n (by omega)]; exact r5 q hq) (fun j k hj => up_n (by omega)) (up_n (by omega)) (fun j hj => uA_n (by omega))
theorem rl_constr {c q : Nat} {x y : Int32} {σ : sn_V} {a : Nat → Int32} (R : Rel c σ a) (hq : q < 3) : Rel c (up (up σ 2 q x) 3 q y) (uA (uA a (6 + 2 * q) x) (7 + 2 * q) y) := by
  have R' := R
  obtain ⟨_, ⟨p, p1, p2, p3⟩, r3, r4, r5, _⟩ := R
  refine rl_same R' ⟨by rw [up_n (by omega), up_n (by omega)], by rw [uA_n (by omega), uA_n (by omega)]⟩ ⟨p, p1, by rw [up_n (by omega), up_n (by omega)]; exact p2, by rw [uA_n (by omega), uA_n (by omega)]; exact p3⟩ (fun r hr => by rw [uA_n (by omega), uA_n (by omega), up_n (by omega), up_n (by omega)]; exact r3 r hr) (by rw [uA_n (by omega), uA_n (by omega), up_n (by omega), up_n (by omega)]; exact r4)
    (fun q' hq' => ?_) (fun j k hj => by rw [up_n (by omega), up_n (by omega)]) (by rw [up_n (by omega), up_n (by omega)]) (fun j hj => by rw [uA_n (by omega), uA_n (by omega)])
  by_cases e : q' = q
  · subst e
    exact ⟨by rw [uA_n (by omega), uA_s, up_n (by omega), up_s], by rw [uA_s, up_s]⟩
  · exact ⟨by rw [uA_n (by omega), uA_n (by omega), up_n (by omega), up_n (by omega)]; exact (r5 q' hq').1, by rw [uA_n (by omega), uA_n (by omega), up_n (by omega), up_n (by omega)]; exact (r5 q' hq').2⟩
/-- a change of one slot alone -/
theorem rl_slot {c i : Nat} {σ σ' : sn_V} {a a' : Nat → Int32} (R : Rel c σ a) (hi : i < 8) (h1 : ∀ j k, j < 6 → ¬ (j = 0 ∧ k = 3) → ¬ (j = 0 ∧ k = 2) → ¬ j = 1 → σ' j k = σ j k) (h2 : ∀ j k, 6 ≤ j → j ≤ 8 → k ≠ i → σ' j k = σ j k) (h3 : ∀ j k, 9 ≤ j → ¬ (i * 12 ≤ k ∧ k < i * 12 + 12) → σ' j k = σ j k)
    (hb : ∀ x, x < 8 → x ≠ i → (bitP (σ' 0 3) x ↔ bitP (σ 0 3) x)) (hw : ∃ w, w < 256 ∧ σ' 0 3 = nI w) (h4 : ∀ j, ¬ (36 + 40 * i ≤ j ∧ j < 36 + 40 * i + 40) → ¬ (2 ≤ j ∧ j ≤ 5) → a' j = a j) (h5 : ∀ r, r < 3 → a' (2 + r) = σ' 1 (r + 1)) (h6 : a' 5 = σ' 0 2) (hs : SlotR σ' a' i) : Rel c σ' a' := by
  obtain ⟨⟨r1, r1'⟩, ⟨p, p1, p2, p3⟩, r3, r4, r5, r6, _, r8, r9⟩ := R
  refine ⟨⟨by rw [h1 0 1 (by omega) (by omega) (by omega) (by omega)]; exact r1, by rw [h4 0 (by omega) (by omega)]; exact r1'⟩, ⟨p, p1, by rw [h1 0 0 (by omega) (by omega) (by omega) (by omega)]; exact p2, by rw [h4 1 (by omega) (by omega)]; exact p3⟩, h5, h6,
    fun q hq => ⟨by rw [h4 _ (by omega) (by omega), h1 2 q (by omega) (by omega) (by omega) (by omega)]; exact (r5 q hq).1, by rw [h4 _ (by omega) (by omega), h1 3 q (by omega) (by omega) (by omega) (by omega)]; exact (r5 q hq).2⟩,
    fun k hk => ⟨by rw [h4 _ (by omega) (by omega), h1 4 k (by omega) (by omega) (by omega) (by omega)]; exact (r6 k hk).1, by rw [h4 _ (by omega) (by omega), h1 5 k (by omega) (by omega) (by omega) (by omega)]; exact (r6 k hk).2⟩, hw, fun x hx => ?_, fun n a1 a2 a3 => ?_⟩
  · by_cases e : x = i
    · rw [e]; exact hs
    · exact (r8 x hx).cg (hb x hx e) (h2 6 x (by omega) (by omega) e) (h2 7 x (by omega) (by omega) e) (h2 8 x (by omega) (by omega) e) (fun k hk => h3 9 _ (by omega) (by omega)) (fun k hk => h3 10 _ (by omega) (by omega)) (fun j hj => h4 _ (by omega) (by omega))
  · exact (r9 n a1 a2 a3).cg (h2 6 _ (by omega) (by omega) (by omega)) (h2 7 _ (by omega) (by omega) (by omega)) (h2 8 _ (by omega) (by omega) (by omega)) (fun k hk => h3 9 _ (by omega) (by omega)) (fun j hj => h4 _ (by omega) (by omega))
theorem rl_read {c i k : Nat} {σ : sn_V} {a : Nat → Int32} (R : Rel c σ a) (hi : i < 8) (ho : bitP (σ 0 3) i) : Rel c (fRead σ i k) (uA a (36 + 40 * i + 1) (a (36 + 40 * i + 1) ||| (nI 1 <<< (nI k &&& 31)))) := by
  have R' := R
  obtain ⟨_, _, r3, r4, _, _, r7, r8, _⟩ := R
  obtain ⟨s0, s⟩ := r8 i hi
  obtain ⟨⟨t0, t1, t2, t3⟩, s2, s3⟩ := s ho
  have e0 : fRead σ i k 0 3 = σ 0 3 := up_n (by omega)
  refine rl_slot R' hi (fun j k' h1 _ _ _ => up_n (by omega)) (fun j k' _ _ h => up_n (by omega)) (fun j k' h _ => up_n (by omega)) (fun x _ _ => by rw [e0]) (by rw [e0]; exact r7) (fun j h1 h2 => uA_n (by omega)) (fun r hr => by rw [uA_n (by omega), r3 r hr]; exact (up_n (by omega)).symm) (by rw [uA_n (by omega), r4]; exact (up_n (by omega)).symm) ?_
  refine ⟨by rw [uA_n (by omega), e0]; exact s0, fun _ => ⟨⟨?_, ?_, ?_, fun k' hk => ?_⟩, ?_, fun k' hk => ?_⟩⟩
  · rw [uA_n (by omega), t0]; exact (up_n (by omega)).symm
  · rw [uA_s, t1]; exact up_s.symm
  · rw [uA_n (by omega), t2]; exact (up_n (by omega)).symm
  · rw [uA_n (by omega), t3 k' hk]; exact (up_n (by omega)).symm
  · rw [show fRead σ i k 8 i = σ 8 i from up_n (by omega)]; exact s2
  · rw [show fRead σ i k 8 i = σ 8 i from up_n (by omega), show fRead σ i k 10 (i * 12 + k') = σ 10 (i * 12 + k') from up_n (by omega), s3 k' hk, uA_n (by omega), uA_n (by omega)]
theorem rl_write {c i k : Nat} {v : Int32} {σ : sn_V} {a : Nat → Int32} (R : Rel c σ a) (hi : i < 8) (hk : k < 12) (ho : bitP (σ 0 3) i) : Rel c (fWrite σ i k v) (uA (uA a (36 + 40 * i + 2) (a (36 + 40 * i + 2) ||| (nI 1 <<< (nI k &&& 31)))) (36 + 40 * i + 27 + k) v) := by
  have R' := R
  obtain ⟨_, _, r3, r4, _, _, r7, r8, _⟩ := R
  obtain ⟨s0, s⟩ := r8 i hi
  obtain ⟨⟨t0, t1, t2, t3⟩, ⟨w, w1, w2⟩, s3⟩ := s ho
  have g : ∀ j k', ¬ (j = 8 ∧ k' = i) → ¬ (j = 10 ∧ k' = i * 12 + k) → fWrite σ i k v j k' = σ j k' := fun j k' h1 h2 => by unfold fWrite; rw [up_n h2, up_n h1]
  have g8 : fWrite σ i k v 8 i = σ 8 i ||| (nI 1 <<< (nI k &&& 31)) := by unfold fWrite; rw [up_n (by omega), up_s]
  have g10 : fWrite σ i k v 10 (i * 12 + k) = v := up_s
  refine rl_slot R' hi (fun j k' h1 _ _ _ => g _ _ (by omega) (by omega)) (fun j k' _ _ h => g _ _ (by omega) (by omega)) (fun j k' h h' => g _ _ (by omega) (by omega)) (fun x _ _ => by rw [g 0 3 (by omega) (by omega)]) (by rw [g 0 3 (by omega) (by omega)]; exact r7) (fun j h1 h2 => by rw [uA_n (by omega), uA_n (by omega)])
    (fun r hr => by rw [uA_n (by omega), uA_n (by omega), r3 r hr, g 1 _ (by omega) (by omega)]) (by rw [uA_n (by omega), uA_n (by omega), r4, g 0 2 (by omega) (by omega)]) ?_
  refine ⟨by rw [uA_n (by omega), uA_n (by omega), g 0 3 (by omega) (by omega)]; exact s0, fun _ => ⟨⟨?_, ?_, ?_, fun k' hk => ?_⟩, ?_, fun k' hk' => ?_⟩⟩
  · rw [uA_n (by omega), uA_n (by omega), t0, g 6 _ (by omega) (by omega)]
  · rw [uA_n (by omega), uA_n (by omega), t1, g 7 _ (by omega) (by omega)]
  · rw [uA_n (by omega), uA_s, t2, g8]
  · rw [uA_n (by omega), uA_n (by omega), t3 k' hk, g 9 _ (by omega) (by omega)]
  · rw [g8, w2]; exact m_put (K := 12) (by omega) w1 hk
  · rw [g8]
    by_cases e : k' = k
    · rw [e, g10, if_pos ((bitP_put (by omega) (by omega)).mpr (Or.inr rfl)), uA_s]
    · rw [g 10 _ (by omega) (by omega), s3 k' hk', uA_n (by omega), uA_n (by omega), uA_n (by omega), uA_n (by omega)]
      have hb : bitP (σ 8 i ||| (nI 1 <<< (nI k &&& 31))) k' ↔ bitP (σ 8 i) k' := by
        rw [bitP_put (by omega) (by omega)]
        exact ⟨fun z => z.resolve_right e, Or.inl⟩
      by_cases q : bitP (σ 8 i) k'
      · rw [if_pos q, if_pos (hb.mpr q)]
      · rw [if_neg q, if_neg (fun z => q (hb.mp z))]
theorem free_b {σ : sn_V} {i x : Nat} (hi : i < 8) (hx : x < 8) : bitP (fFree σ i 0 3) x ↔ bitP (σ 0 3) x ∧ x ≠ i := by
  unfold fFree
  rw [up_s, bitP_clr (by omega) (by omega)]
theorem rl_abort {c i : Nat} {σ : sn_V} {a a' : Nat → Int32} (R : Rel c σ a) (hi : i < 8) (f0 : ∀ j, ¬ (36 + 40 * i ≤ j ∧ j < 36 + 40 * i + 40) → j ≠ 5 → a' j = a j) (f1 : a' 5 = a 5 + nI 1) (f2 : ∀ j, j < 40 → a' (36 + 40 * i + j) = nI 0) : Rel c (fGive σ i) a' := by
  have R' := R
  obtain ⟨_, _, r3, r4, _, _, ⟨w, w1, w2⟩, r8, _⟩ := R
  have g : ∀ j k, ¬ (j = 0 ∧ k = 3) → ¬ (j = 0 ∧ k = 2) → fGive σ i j k = σ j k := fun j k h1 h2 => by unfold fGive fFree; rw [up_n h2, up_n h1]
  have g3 : fGive σ i 0 3 = fFree σ i 0 3 := up_n (by omega)
  refine rl_slot R' hi (fun j k h1 h2 h3 _ => g j k h2 h3) (fun j k _ _ _ => g j k (by omega) (by omega)) (fun j k _ _ => g j k (by omega) (by omega)) (fun x hx hne => ?_) ?_ (fun j h1 h2 => f0 j h1 (by omega)) (fun r hr => by rw [f0 _ (by omega) (by omega), g 1 _ (by omega) (by omega)]; exact r3 r hr) ?_ (SlotR.free ?_ (f2 39 (by omega)))
  · rw [g3, free_b hi hx]
    exact ⟨fun z => z.1, fun z => ⟨z, hne⟩⟩
  · rw [g3]
    unfold fFree
    rw [up_s, w2]
    exact m_clr (K := 8) (by omega) w1
  · rw [f1, r4]; exact up_s.symm
  · rw [g3, free_b hi hi]
    exact fun z => z.2 rfl
/-- refused -/
def fRef (σ : sn_V) (i y : Nat) : sn_V := up (fFree σ i) 1 y (fFree σ i 1 y + nI 1)
theorem rl_refuse {c i y : Nat} {σ : sn_V} {a a' : Nat → Int32} (R : Rel c σ a) (hi : i < 8) (hy : 0 < y) (hy4 : y < 4) (f0 : ∀ j, ¬ (36 + 40 * i ≤ j ∧ j < 36 + 40 * i + 40) → j ≠ 1 + y → a' j = a j) (f1 : a' (1 + y) = a (1 + y) + nI 1) (f2 : ∀ j, j < 40 → a' (36 + 40 * i + j) = nI 0) : Rel c (fRef σ i y) a' := by
  have R' := R
  obtain ⟨_, _, r3, r4, _, _, ⟨w, w1, w2⟩, r8, _⟩ := R
  have g : ∀ j k, ¬ (j = 0 ∧ k = 3) → ¬ (j = 1 ∧ k = y) → fRef σ i y j k = σ j k := fun j k h1 h2 => by unfold fRef fFree; rw [up_n h2, up_n h1]
  have g3 : fRef σ i y 0 3 = fFree σ i 0 3 := up_n (by omega)
  have g1 : fRef σ i y 1 y = σ 1 y + nI 1 := by unfold fRef fFree; rw [up_s, up_n (by omega)]
  refine rl_slot R' hi (fun j k h1 h2 h3 h4 => g j k h2 (by omega)) (fun j k _ _ _ => g j k (by omega) (by omega)) (fun j k _ _ => g j k (by omega) (by omega)) (fun x hx hne => ?_) ?_ (fun j h1 h2 => f0 j h1 (by omega)) (fun r hr => ?_) (by rw [f0 5 (by omega) (by omega), g 0 2 (by omega) (by omega)]; exact r4) (SlotR.free ?_ (f2 39 (by omega)))
  · rw [g3, free_b hi hx]
    exact ⟨fun z => z.1, fun z => ⟨z, hne⟩⟩
  · rw [g3]
    unfold fFree
    rw [up_s, w2]
    exact m_clr (K := 8) (by omega) w1
  · by_cases e : r + 1 = y
    · rw [e, g1, show 2 + r = 1 + y by omega, f1, show 1 + y = 2 + r by omega, r3 r hr, e]
    · rw [f0 _ (by omega) (by omega), g 1 _ (by omega) (by omega)]; exact r3 r hr
  · rw [g3, free_b hi hi]
    exact fun z => z.2 rfl
theorem fKC_n {σ : sn_V} {i j k : Nat} (h4 : j ≠ 4) (h5 : j ≠ 5) : fKC σ i 12 j k = σ j k := by
  unfold fKC
  rw [if_neg (fun z => h4 z.1), if_neg (fun z => h5 z.1)]
theorem rl_keep {c i : Nat} {σ : sn_V} {a a' : Nat → Int32} (R : Rel c σ a) (hi : i < 8) (ho : bitP (σ 0 3) i) (f0 : ∀ j, ¬ (36 + 40 * i ≤ j ∧ j < 36 + 40 * i + 40) → j ≠ 0 → ¬ (356 + 15 * ((c + 1) % 16) ≤ j ∧ j < 356 + 15 * ((c + 1) % 16) + 15) → ¬ (12 ≤ j ∧ j < 36) → a' j = a j)
    (f1 : a' 0 = nI (c + 1)) (f2 : ∀ k, k < 15 → a' (356 + 15 * ((c + 1) % 16) + k) = a (36 + 40 * i + k)) (f3 : ∀ k, k < 12 → a' (12 + k) = if bitP (a (36 + 40 * i + 2)) k then a (36 + 40 * i + 27 + k) else a (12 + k)) (f4 : ∀ k, k < 12 → a' (24 + k) = if bitP (a (36 + 40 * i + 2)) k then nI (c + 1) else a (24 + k))
    (f5 : ∀ j, j < 40 → a' (36 + 40 * i + j) = nI 0) : Rel (c + 1) (fKeep σ i (8 + c % 16)) a' := by
  obtain ⟨⟨r1, r1'⟩, ⟨p, p1, p2, p3⟩, r3, r4, r5, r6, ⟨w, w1, w2⟩, r8, r9⟩ := R
  obtain ⟨s0, s⟩ := r8 i hi
  obtain ⟨T, ⟨w', w1', w2'⟩, s3⟩ := s ho
  have T' := T
  obtain ⟨t0, t1, t2, t3⟩ := T'
  have g1 : ∀ j k, ¬ (j = 0 ∧ (k = 1 ∨ k = 3)) → ¬ (j = 6 ∧ k = 8 + c % 16) → ¬ (j = 7 ∧ k = 8 + c % 16) → ¬ (j = 8 ∧ k = 8 + c % 16) → ¬ (j = 9 ∧ (8 + c % 16) * 12 ≤ k ∧ k < (8 + c % 16) * 12 + 12) → fKeep1 σ i (8 + c % 16) j k = σ j k := fun j k h1 h2 h3 h4 h5 => by
    unfold fKeep1 fKeep0
    rw [cpV_n h5, up_n h4, up_n h3, up_n h2, up_n (by omega), up_n (by omega)]
  have k1 : fKeep1 σ i (8 + c % 16) 0 1 = nI (c + 1) := by
    unfold fKeep1 fKeep0
    rw [cpV_n (by omega), up_n (by omega), up_n (by omega), up_n (by omega), up_s, r1, nI_s]
  have k3 : fKeep1 σ i (8 + c % 16) 0 3 = fFree σ i 0 3 := by
    unfold fKeep1 fKeep0 fFree
    rw [cpV_n (by omega), up_n (by omega), up_n (by omega), up_n (by omega), up_n (by omega)]
  have k6 : fKeep1 σ i (8 + c % 16) 6 (8 + c % 16) = σ 6 i := by
    unfold fKeep1
    rw [cpV_n (by omega), up_n (by omega), up_n (by omega), up_s]
  have k7 : fKeep1 σ i (8 + c % 16) 7 (8 + c % 16) = σ 7 i := by
    unfold fKeep1
    rw [cpV_n (by omega), up_n (by omega), up_s]
  have k8 : fKeep1 σ i (8 + c % 16) 8 (8 + c % 16) = σ 8 i := by
    unfold fKeep1
    rw [cpV_n (by omega), up_s]
  have k9 : ∀ k, k < 12 → fKeep1 σ i (8 + c % 16) 9 ((8 + c % 16) * 12 + k) = σ 9 (i * 12 + k) := fun k hk => by
    unfold fKeep1 fKeep0
    rw [cpV_y (by omega), up_n (by omega), up_n (by omega), up_n (by omega), up_n (by omega), up_n (by omega)]
    exact congrArg (σ 9) (by omega)
  have G : ∀ j k, j ≠ 4 → j ≠ 5 → fKeep σ i (8 + c % 16) j k = fKeep1 σ i (8 + c % 16) j k := fun j k h4 h5 => fKC_n h4 h5
  have e8 : fKeep1 σ i (8 + c % 16) 8 i = σ 8 i := g1 8 i (by omega) (by omega) (by omega) (by omega) (by omega)
  have G4 : ∀ k, k < 12 → fKeep σ i (8 + c % 16) 4 k = if bitP (σ 8 i) k then σ 10 (i * 12 + k) else σ 4 k := fun k hk => by
    unfold fKeep fKC
    rw [e8, g1 10 _ (by omega) (by omega) (by omega) (by omega) (by omega), g1 4 _ (by omega) (by omega) (by omega) (by omega) (by omega), if_neg (c := (4 : Nat) = 5 ∧ _) (fun z => absurd z.1 (by decide))]
    simp only [hk, true_and]
  have G5 : ∀ k, k < 12 → fKeep σ i (8 + c % 16) 5 k = if bitP (σ 8 i) k then nI (c + 1) else σ 5 k := fun k hk => by
    unfold fKeep fKC
    rw [e8, k1, g1 5 _ (by omega) (by omega) (by omega) (by omega) (by omega), if_neg (c := (5 : Nat) = 4 ∧ _) (fun z => absurd z.1 (by decide))]
    simp only [hk, true_and]
  have gg : ∀ j k, j ≠ 4 → j ≠ 5 → ¬ (j = 0 ∧ (k = 1 ∨ k = 3)) → ¬ (j = 6 ∧ k = 8 + c % 16) → ¬ (j = 7 ∧ k = 8 + c % 16) → ¬ (j = 8 ∧ k = 8 + c % 16) → ¬ (j = 9 ∧ (8 + c % 16) * 12 ≤ k ∧ k < (8 + c % 16) * 12 + 12) → fKeep σ i (8 + c % 16) j k = σ j k := fun j k h h' h1 h2 h3 h4 h5 => (G j k h h').trans (g1 j k h1 h2 h3 h4 h5)
  refine ⟨⟨by rw [G 0 1 (by omega) (by omega)]; exact k1, f1⟩, ⟨p, p1, by rw [gg 0 0 (by omega) (by omega) (by omega) (by omega) (by omega) (by omega) (by omega)]; exact p2, by rw [f0 1 (by omega) (by omega) (by omega) (by omega)]; exact p3⟩,
    fun r hr => by rw [f0 _ (by omega) (by omega) (by omega) (by omega), gg 1 _ (by omega) (by omega) (by omega) (by omega) (by omega) (by omega) (by omega)]; exact r3 r hr, by rw [f0 5 (by omega) (by omega) (by omega) (by omega), gg 0 2 (by omega) (by omega) (by omega) (by omega) (by omega) (by omega) (by omega)]; exact r4,
    fun q hq => ⟨by rw [f0 _ (by omega) (by omega) (by omega) (by omega), gg 2 _ (by omega) (by omega) (by omega) (by omega) (by omega) (by omega) (by omega)]; exact (r5 q hq).1, by rw [f0 _ (by omega) (by omega) (by omega) (by omega), gg 3 _ (by omega) (by omega) (by omega) (by omega) (by omega) (by omega) (by omega)]; exact (r5 q hq).2⟩,
    fun k hk => ⟨?_, ?_⟩, ?_, fun x hx => ?_, fun n h1 h2 h3 => ?_⟩
  · rw [f3 k hk, G4 k hk, t2, (r6 k hk).1]
    by_cases q : bitP (σ 8 i) k
    · rw [if_pos q, if_pos q, s3 k hk, if_pos q]
    · rw [if_neg q, if_neg q]
  · rw [f4 k hk, G5 k hk, t2, (r6 k hk).2]
  · rw [G 0 3 (by omega) (by omega), k3]
    unfold fFree
    rw [up_s, w2]
    exact m_clr (K := 8) (by omega) w1
  · have hb : bitP (fKeep σ i (8 + c % 16) 0 3) x ↔ bitP (σ 0 3) x ∧ x ≠ i := by rw [G 0 3 (by omega) (by omega), k3, free_b hi hx]
    by_cases e : x = i
    · subst e
      exact SlotR.free (fun z => (hb.mp z).2 rfl) (f5 39 (by omega))
    · refine (r8 x hx).cg (hb.trans ⟨fun z => z.1, fun z => ⟨z, e⟩⟩) (gg 6 _ (by omega) (by omega) (by omega) (by omega) (by omega) (by omega) (by omega)) (gg 7 _ (by omega) (by omega) (by omega) (by omega) (by omega) (by omega) (by omega)) (gg 8 _ (by omega) (by omega) (by omega) (by omega) (by omega) (by omega) (by omega))
        (fun k hk => gg 9 _ (by omega) (by omega) (by omega) (by omega) (by omega) (by omega) (by omega)) (fun k hk => gg 10 _ (by omega) (by omega) (by omega) (by omega) (by omega) (by omega) (by omega)) (fun j hj => f0 _ (by omega) (by omega) (by omega) (by omega))
  · by_cases e : n = c + 1
    · rw [e, show c + 1 - 1 = c by omega]
      exact T.cg (by rw [G 6 _ (by omega) (by omega)]; exact k6) (by rw [G 7 _ (by omega) (by omega)]; exact k7) (by rw [G 8 _ (by omega) (by omega)]; exact k8) (fun k hk => by rw [G 9 _ (by omega) (by omega)]; exact k9 k hk) (fun j hj => f2 j hj)
    · exact (r9 n h1 (by omega) (by omega)).cg (gg 6 _ (by omega) (by omega) (by omega) (by omega) (by omega) (by omega) (by omega)) (gg 7 _ (by omega) (by omega) (by omega) (by omega) (by omega) (by omega) (by omega)) (gg 8 _ (by omega) (by omega) (by omega) (by omega) (by omega) (by omega) (by omega))
        (fun k hk => gg 9 _ (by omega) (by omega) (by omega) (by omega) (by omega) (by omega) (by omega)) (fun j hj => f0 _ (by omega) (by omega) (by omega) (by omega))
