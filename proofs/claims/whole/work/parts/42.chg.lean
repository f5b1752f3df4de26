/-! ===== the Model: what changes its numbers ===== -/
def wA (μ : sn_V) (a : Nat → Int32) : sn_V := fun j k => if j = 1 then a k else μ j k
def uA (a : Nat → Int32) (k : Nat) (v : Int32) : Nat → Int32 := fun j => if j = k then v else a j
theorem wA_1 {μ : sn_V} {a : Nat → Int32} : wA μ a 1 = a := funext fun _ => if_pos rfl
theorem wA_n {μ : sn_V} {a : Nat → Int32} {j k : Nat} (h : j ≠ 1) : wA μ a j k = μ j k := if_neg h
theorem wA_self {μ : sn_V} : wA μ (μ 1) = μ := by
  funext j k
  unfold wA
  by_cases h : j = 1
  · rw [if_pos h, h]
  · rw [if_neg h]
theorem wA_up {μ : sn_V} {a : Nat → Int32} {k : Nat} {v : Int32} : up (wA μ a) 1 k v = wA μ (uA a k v) := by
  funext j i
  unfold up wA uA
  by_cases h : j = 1 <;> simp [h]
theorem wA_wA {μ : sn_V} {a b : Nat → Int32} : wA (wA μ a) b = wA μ b := by
  funext j i
  unfold wA
  by_cases h : j = 1 <;> simp [h]
theorem uA_s {a : Nat → Int32} {k : Nat} {v : Int32} : uA a k v k = v := if_pos rfl
theorem uA_n {a : Nat → Int32} {k j : Nat} {v : Int32} (h : j ≠ k) : uA a k v j = a j := if_neg h
theorem sl_ix (w k : Nat) : (nI 36 + (nI 40 * nI w)) + nI k = nI (36 + 40 * w + k) := by rw [pk_mul, nI_add, nI_add]
theorem sl_ix2 (w b k : Nat) : (nI 36 + (nI 40 * nI w)) + (nI b + nI k) = nI (36 + 40 * w + b + k) := by rw [nI_add, sl_ix, Nat.add_assoc (36 + 40 * w)]
theorem mwG {h : sn_H} {m k : Nat} {μ : sn_V} {a : Nat → Int32} (hk : k < 2 ^ 31) : hG (mpt h m (wA μ a)) (m + 1) (nI k).toNatClampNeg = a k := by rw [cl hk, mpt_get (by decide), wA_1]
theorem mwS {h : sn_H} {m k : Nat} {μ : sn_V} {a : Nat → Int32} {v : Int32} (hk : k < 2 ^ 31) : setG (mpt h m (wA μ a)) (m + 1) (nI k).toNatClampNeg v = mpt h m (wA μ (uA a k v)) := by rw [cl hk, mpt_set (by decide), wA_up]
theorem s_M_frees {h : sn_H} {m w : Nat} {μ : sn_V} {a : Nat → Int32} {Q : Option Value → sn_H → Prop} (S : MoS h m) (hw : w < 8)
    (H : ∀ a', (∀ j, ¬ (36 + 40 * w ≤ j ∧ j < 36 + 40 * w + 40) → a' j = a j) → (∀ j, j < 40 → a' (36 + 40 * w + j) = nI 0) → Q none (mpt h m (wA μ a'))) :
    wpE 103 0 [some (.ref m), some (.int (nI w)), none] [] (mpt h m (wA μ a)) (0, 0) Q := by
  refine r_M_frees_0 ?_
  suffices ∀ (r k : Nat) (a1 : Nat → Int32), k + r = 40 → (∀ j, ¬ (36 + 40 * w ≤ j ∧ j < 36 + 40 * w + 40) → a1 j = a j) → (∀ j, j < k → a1 (36 + 40 * w + j) = nI 0) → wpE 103 2 [some (.ref m), some (.int (nI w)), some (.int (nI k))] [] (mpt h m (wA μ a1)) (0, 0) Q from
    this 40 0 a (Nat.zero_add _) (fun _ _ => rfl) (fun j hj => absurd hj (Nat.not_lt_zero j))
  intro r
  induction r with
  | zero =>
    intro k a1 hk h1 h2
    have e : k = 40 := hk
    subst e
    exact r_M_frees_2 S.1 S.f1.1 S.f1.2 (fun _ => H a1 h1 h2) (fun z => absurd (Int32.le_refl _) z) (fun z => absurd (Int32.le_refl _) z)
  | succ r ih =>
    intro k a1 hk h1 h2
    refine r_M_frees_2 S.1 S.f1.1 S.f1.2 (fun z => absurd z (nI_ge (by omega) (by omega))) (fun _ => by rw [sl_ix]; exact inb (by omega)) (fun _ => ?_)
    rw [sl_ix, mwS (by omega), nI_s]
    refine ih (k + 1) _ (by omega) (fun j hj => by rw [uA_n (by omega)]; exact h1 j hj) (fun j hj => ?_)
    by_cases q : j = k
    · rw [q, uA_s]
    · rw [uA_n (by omega)]; exact h2 j (by omega)
theorem s_M_begins {h : sn_H} {m w : Nat} {μ : sn_V} {a : Nat → Int32} {Q : Option Value → sn_H → Prop} (S : MoS h m) (hw : w < 8)
    (H : ∀ a', (∀ j, ¬ (36 + 40 * w ≤ j ∧ j < 36 + 40 * w + 40) → a' j = a j) → a' (36 + 40 * w + 39) = nI 1 → a' (36 + 40 * w) = a 0 → a' (36 + 40 * w + 1) = nI 0 → a' (36 + 40 * w + 2) = nI 0 →
      (∀ k, k < 12 → a' (36 + 40 * w + 3 + k) = a (24 + k)) → (∀ k, k < 12 → a' (36 + 40 * w + 15 + k) = a (12 + k)) → Q (some (.int (a 0))) (mpt h m (wA μ a'))) :
    wpE 102 0 [some (.ref m), some (.int (nI w)), none] [] (mpt h m (wA μ a)) (0, 0) Q := by
  refine r_M_begins_0 S.1 (s_M_frees S hw (fun a1 f1 f2 => ?_))
  refine r_M_begins_5 S.1 S.f1.1 S.f1.2 (by rw [sl_ix]; exact inb (by omega)) (inb (by omega)) (by rw [sl_ix]; exact inb (by omega)) ?_
  rw [sl_ix, sl_ix, mwS (by omega), mwG (by omega), mwS (by omega), uA_n (by omega), f1 0 (by omega)]
  suffices ∀ (r k : Nat) (a2 : Nat → Int32), k + r = 12 → (∀ j, ¬ (36 + 40 * w ≤ j ∧ j < 36 + 40 * w + 40) → a2 j = a j) → a2 (36 + 40 * w + 39) = nI 1 → a2 (36 + 40 * w) = a 0 → a2 (36 + 40 * w + 1) = nI 0 → a2 (36 + 40 * w + 2) = nI 0 →
      (∀ j, j < k → a2 (36 + 40 * w + 3 + j) = a (24 + j)) → (∀ j, j < k → a2 (36 + 40 * w + 15 + j) = a (12 + j)) → wpE 102 27 [some (.ref m), some (.int (nI w)), some (.int (nI k))] [] (mpt h m (wA μ a2)) (0, 0) Q from
    this 12 0 _ (Nat.zero_add _) (fun j hj => by rw [uA_n (by omega), uA_n (by omega)]; exact f1 j hj) (by rw [uA_n (by omega), uA_s]) (uA_s (k := 36 + 40 * w)) (by rw [uA_n (by omega), uA_n (by omega)]; exact f2 1 (by omega)) (by rw [uA_n (by omega), uA_n (by omega)]; exact f2 2 (by omega))
      (fun j hj => absurd hj (Nat.not_lt_zero j)) (fun j hj => absurd hj (Nat.not_lt_zero j))
  intro r
  induction r with
  | zero =>
    intro k a2 hk g0 g1 g2 g3 g4 g5 g6
    have e : k = 12 := hk
    subst e
    have nn : ∀ {P : Prop}, ¬ nI 12 ≤ nI 12 → P := fun z => absurd (Int32.le_refl _) z
    refine r_M_begins_27 S.1 S.f1.1 S.f1.2 (fun _ => inb (by omega)) (fun _ => ?_) nn nn nn nn nn
    rw [mwG (by omega), g0 0 (by omega)]
    exact H a2 g0 g1 g2 g3 g4 g5 g6
  | succ r ih =>
    intro k a2 hk g0 g1 g2 g3 g4 g5 g6
    have nb : ∀ {P : Prop}, nI 12 ≤ nI k → P := fun z => absurd z (nI_ge (by omega) (by omega))
    refine r_M_begins_27 S.1 S.f1.1 S.f1.2 nb nb (fun _ => by rw [nI_add]; exact inb (by omega)) (fun _ => by rw [sl_ix2]; exact inb (by omega)) (fun _ => by rw [nI_add]; exact inb (by omega)) (fun _ => by rw [sl_ix2]; exact inb (by omega)) (fun _ => r_M_begins_71 ?_)
    rw [sl_ix2, sl_ix2, nI_add 24 k, nI_add 12 k, mwG (by omega), mwS (by omega), mwG (by omega), mwS (by omega), uA_n (by omega), g0 (24 + k) (by omega), g0 (12 + k) (by omega), nI_s]
    refine ih (k + 1) _ (by omega) (fun j hj => by rw [uA_n (by omega), uA_n (by omega)]; exact g0 j hj) (by rw [uA_n (by omega), uA_n (by omega)]; exact g1) (by rw [uA_n (by omega), uA_n (by omega)]; exact g2) (by rw [uA_n (by omega), uA_n (by omega)]; exact g3) (by rw [uA_n (by omega), uA_n (by omega)]; exact g4) (fun j hj => ?_) (fun j hj => ?_)
    · by_cases q : j = k
      · rw [q, uA_n (by omega), uA_s]
      · rw [uA_n (by omega), uA_n (by omega)]; exact g5 j (by omega)
    · by_cases q : j = k
      · rw [q, uA_s]
      · rw [uA_n (by omega), uA_n (by omega)]; exact g6 j (by omega)
theorem s_M_reads {h : sn_H} {m w k : Nat} {μ : sn_V} {a : Nat → Int32} {Q : Option Value → sn_H → Prop} (S : MoS h m) (hw : w < 8) (hk : k < 12)
    (H1 : bitP (a (36 + 40 * w + 2)) k → Q (some (.int (a (36 + 40 * w + 27 + k)))) (mpt h m (wA μ a)))
    (H2 : ¬ bitP (a (36 + 40 * w + 2)) k → Q (some (.int (a (36 + 40 * w + 15 + k)))) (mpt h m (wA μ (uA a (36 + 40 * w + 1) (a (36 + 40 * w + 1) ||| (nI 1 <<< (nI k &&& 31))))))) :
    wpE 108 0 [some (.ref m), some (.int (nI w)), some (.int (nI k))] [] (mpt h m (wA μ a)) (0, 0) Q := by
  refine r_M_reads_0 S.1 S.f1.1 S.f1.2 (by rw [sl_ix]; exact inb (by omega)) (fun _ => by rw [sl_ix]; exact inb (by omega)) (fun _ => by rw [sl_ix2]; exact inb (by omega)) (fun z => ?_) (fun _ => by rw [sl_ix2]; exact inb (by omega)) (fun z => ?_)
  · rw [sl_ix, mwG (by omega)] at z
    rw [sl_ix, sl_ix2, mwG (by omega), mwS (by omega), mwG (by omega), uA_n (by omega)]
    exact H2 z
  · rw [sl_ix, mwG (by omega)] at z
    rw [sl_ix2, mwG (by omega)]
    exact H1 z
theorem s_M_writes {h : sn_H} {m w k : Nat} {v : Int32} {μ : sn_V} {a : Nat → Int32} {Q : Option Value → sn_H → Prop} (S : MoS h m) (hw : w < 8) (hk : k < 12)
    (H : Q (some (.int (onesI (a (36 + 40 * w + 2) ||| (nI 1 <<< (nI k &&& 31))) 12))) (mpt h m (wA μ (uA (uA a (36 + 40 * w + 2) (a (36 + 40 * w + 2) ||| (nI 1 <<< (nI k &&& 31)))) (36 + 40 * w + 27 + k) v)))) :
    wpE 111 0 [some (.ref m), some (.int (nI w)), some (.int (nI k)), some (.int v)] [] (mpt h m (wA μ a)) (0, 0) Q := by
  refine r_M_writes_0 S.1 S.f1.1 S.f1.2 (by rw [sl_ix]; exact inb (by omega)) (by rw [sl_ix2]; exact inb (by omega)) ?_
  rw [sl_ix, sl_ix2, mwG (by omega), mwS (by omega), mwS (by omega), mwG (by omega), uA_n (by omega), uA_s]
  exact s_M_ones (r_M_writes_35 H)
theorem s_M_aborts {h : sn_H} {m w : Nat} {μ : sn_V} {a : Nat → Int32} {Q : Option Value → sn_H → Prop} (S : MoS h m) (hw : w < 8)
    (H : ∀ a', (∀ j, ¬ (36 + 40 * w ≤ j ∧ j < 36 + 40 * w + 40) → j ≠ 5 → a' j = a j) → a' 5 = a 5 + nI 1 → (∀ j, j < 40 → a' (36 + 40 * w + j) = nI 0) → Q (some (.int (onesI (a (36 + 40 * w + 2)) 12))) (mpt h m (wA μ a'))) :
    wpE 131 0 [some (.ref m), some (.int (nI w)), none] [] (mpt h m (wA μ a)) (0, 0) Q := by
  refine r_M_aborts_0 S.1 S.f1.1 S.f1.2 (by rw [sl_ix]; exact inb (by omega)) ?_
  rw [sl_ix, mwG (by omega)]
  refine s_M_ones ?_
  refine r_M_aborts_9 S.1 S.f1.1 S.f1.2 (inb (by omega)) ?_
  rw [mwG (by omega), mwS (by omega)]
  refine s_M_frees S hw (fun a1 f1 f2 => r_M_aborts_25 ?_)
  exact H a1 (fun j hj h5 => by rw [f1 j hj, uA_n h5]) (by rw [f1 5 (by omega), uA_s]) f2
