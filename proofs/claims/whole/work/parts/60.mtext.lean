/-! ===== the text: what the Model reads ===== -/
def psc (μ μ' : sn_V) : Prop := ∀ j k, ¬ (j = 0 ∧ 11 ≤ k) → μ' j k = μ j k
theorem psc.tr {a b d : sn_V} (h1 : psc a b) (h2 : psc b d) : psc a d := fun j k q => (h2 j k q).trans (h1 j k q)
theorem psc_up {μ : sn_V} {k : Nat} {v : Int32} (hk : 11 ≤ k) : psc μ (up μ 0 k v) := fun _ _ q => up_n (fun z => q (by omega))
/-- the Model's text: n characters -/
def TxM (μ : sn_V) (n : Nat) (tx : Nat → Nat) : Prop := n ≤ 80 ∧ μ 0 5 = nI n ∧ ∀ i, i < n → μ 4 i = nI (tx i) ∧ 33 ≤ tx i ∧ tx i ≤ 126
theorem TxM.ps {μ μ' : sn_V} {n : Nat} {tx : Nat → Nat} (T : TxM μ n tx) (h : psc μ μ') : TxM μ' n tx := ⟨T.1, by rw [h 0 5 (by omega)]; exact T.2.1, fun i hi => by rw [h 4 i (by omega)]; exact T.2.2 i hi⟩
theorem up_id {μ : sn_V} {j k : Nat} {v : Int32} (h : μ j k = v) : up μ j k v = μ := by
  funext a b
  unfold up
  by_cases q : a = j ∧ b = k
  · rw [if_pos q, q.1, q.2, h]
  · rw [if_neg q]
theorem tm_e {h : sn_H} {μ : sn_V} {n p : Nat} {tx : Nat → Nat} (T : TxM μ n tx) (hp : μ 0 11 = nI p) : hG (mpt h 103 μ) 103 5 = nI n ∧ hG (mpt h 103 μ) 103 11 = nI p := ⟨by rw [mpt_get0]; exact T.2.1, by rw [mpt_get0]; exact hp⟩
theorem tm_c {h : sn_H} {μ : sn_V} {n p : Nat} {tx : Nat → Nat} (T : TxM μ n tx) (hp : μ 0 11 = nI p) (hn : p < n) : hG (mpt h 103 μ) (103 + 4) (hG (mpt h 103 μ) 103 11).toNatClampNeg = nI (tx p) := by
  have := T.1
  rw [(tm_e T hp).2, cl (by omega), mpt_get (by decide)]
  exact (T.2.2 p hn).1
theorem s_M_isNext {h : sn_H} {μ : sn_V} {n p x : Nat} {tx : Nat → Nat} {Q : Option Value → sn_H → Prop} (S : MoS h 103) (T : TxM μ n tx) (hp : μ 0 11 = nI p) (hpn : p ≤ n) (hx : x < 127)
    (H1 : p < n → tx p = x → Q (some (.int (nI 1))) (mpt h 103 (up μ 0 11 (nI (p + 1))))) (H2 : ¬ (p < n ∧ tx p = x) → Q (some (.int (nI 0))) (mpt h 103 μ)) : wpE 167 0 [some (.ref 103), some (.int (nI x)), none] [] (mpt h 103 μ) (0, 0) Q := by
  have n80 := T.1
  obtain ⟨e5, e11⟩ := tm_e (h := h) T hp
  have s0 : setG (mpt h 103 μ) 103 11 (nI p + nI 0) = mpt h 103 μ := by rw [add_n0, mpt_set0, up_id hp]
  have m1 : ¬ -(nI 1) = nI x := fun z => by
    have : (-(nI 1) : Int32).toInt = -1 := by decide
    rw [z, nI_toInt (by omega)] at this
    omega
  refine r_M_isNext_0 S.1 S.f4.1 S.f4.2 (fun z _ => ?_) (fun _ z => absurd z m1) (fun z => ?_) (fun z y => ?_) (fun z y => ?_)
  · rw [e5, e11, nI_leI (by omega) (by omega)] at z
    rw [e11, s0]
    exact H2 (fun q => by omega)
  · rw [e5, e11, nI_leI (by omega) (by omega)] at z
    rw [e11]
    exact inb (by omega)
  · rw [e5, e11, nI_leI (by omega) (by omega)] at z
    have hn : p < n := by omega
    rw [tm_c T hp hn] at y
    rw [e11, s0]
    exact H2 (fun q => y (by rw [q.2]))
  · rw [e5, e11, nI_leI (by omega) (by omega)] at z
    have hn : p < n := by omega
    have hr := (T.2.2 p hn).2
    rw [tm_c T hp hn, nI_eq (by omega) (by omega)] at y
    rw [e11, nI_s, mpt_set0]
    exact H1 hn y
theorem s_M_readsSlot {h : sn_H} {μ : sn_V} {n p : Nat} {tx : Nat → Nat} {Q : Option Value → sn_H → Prop} (S : MoS h 103) (T : TxM μ n tx) (hp : μ 0 11 = nI p) (hpn : p ≤ n)
    (H1 : p < n → 48 ≤ tx p → tx p ≤ 55 → Q (some (.int (nI 1))) (mpt h 103 (up (up μ 0 13 (nI (tx p - 48))) 0 11 (nI (p + 1))))) (H2 : ¬ (p < n ∧ 48 ≤ tx p ∧ tx p ≤ 55) → ∀ v, Q (some (.int (nI 0))) (mpt h 103 (up μ 0 13 v))) : wpE 165 0 [some (.ref 103), none] [] (mpt h 103 μ) (0, 0) Q := by
  have n80 := T.1
  obtain ⟨e5, e11⟩ := tm_e (h := h) T hp
  have s0 : ∀ v, setG (setG (mpt h 103 μ) 103 13 v) 103 11 ((hG (setG (mpt h 103 μ) 103 13 v) 103 11) + nI 0) = mpt h 103 (up μ 0 13 v) := fun v => by
    rw [mpt_set0, mpt_get0, up_n (by omega), hp, add_n0, mpt_set0, up_id]
    rw [up_n (by omega)]; exact hp
  have s1 : ∀ v, setG (setG (mpt h 103 μ) 103 13 v) 103 11 ((hG (setG (mpt h 103 μ) 103 13 v) 103 11) + nI 1) = mpt h 103 (up (up μ 0 13 v) 0 11 (nI (p + 1))) := fun v => by
    rw [mpt_set0, mpt_get0, up_n (by omega), hp, nI_s, mpt_set0]
  have ib : ¬ hG (mpt h 103 μ) 103 5 ≤ hG (mpt h 103 μ) 103 11 → vp_in (hG (mpt h 103 μ) 103 11) 80 := fun z => by
    rw [e5, e11, nI_leI (by omega) (by omega)] at z
    rw [e11]
    exact inb (by omega)
  have hn : ¬ hG (mpt h 103 μ) 103 5 ≤ hG (mpt h 103 μ) 103 11 → p < n := fun z => by
    rw [e5, e11, nI_leI (by omega) (by omega)] at z
    omega
  refine r_M_readsSlot_0 S.1 S.f4.1 S.f4.2 (fun z => ?_) ib (fun z _ => ib z) (fun z y => ?_) (fun z _ _ => ib z) (fun z y y2 => ?_) (fun z _ _ => ib z) (fun z y y2 => ?_)
  · rw [e5, e11, nI_leI (by omega) (by omega)] at z
    rw [s0]
    exact r_M_readsSlot_49 (H2 (fun q => by omega) _) (by decide)
  · have hr := (T.2.2 p (hn z)).2
    rw [tm_c T hp (hn z), nI_ltI (by omega) (by omega)] at y
    rw [s0]
    exact r_M_readsSlot_49 (H2 (fun q => by omega) _) (by decide)
  · have hr := (T.2.2 p (hn z)).2
    rw [tm_c T hp (hn z), nI_ltI (by omega) (by omega)] at y2
    rw [s0]
    exact r_M_readsSlot_49 (H2 (fun q => by omega) _) (by decide)
  · have hr := (T.2.2 p (hn z)).2
    rw [tm_c T hp (hn z), nI_ltI (by omega) (by omega)] at y
    rw [tm_c T hp (hn z), nI_ltI (by omega) (by omega)] at y2
    rw [s1, tm_c T hp (hn z), pk_sub (by omega)]
    exact r_M_readsSlot_49 (H1 (hn z) (by omega) (by omega)) (by decide)
theorem s_M_readsKey {h : sn_H} {μ : sn_V} {n p : Nat} {tx : Nat → Nat} {Q : Option Value → sn_H → Prop} (S : MoS h 103) (T : TxM μ n tx) (hp : μ 0 11 = nI p) (hpn : p ≤ n)
    (H1 : p < n → 97 ≤ tx p → tx p ≤ 108 → Q (some (.int (nI 1))) (mpt h 103 (up (up μ 0 14 (nI (tx p - 97))) 0 11 (nI (p + 1))))) (H2 : ¬ (p < n ∧ 97 ≤ tx p ∧ tx p ≤ 108) → ∀ v, Q (some (.int (nI 0))) (mpt h 103 (up μ 0 14 v))) : wpE 166 0 [some (.ref 103), none] [] (mpt h 103 μ) (0, 0) Q := by
  have n80 := T.1
  obtain ⟨e5, e11⟩ := tm_e (h := h) T hp
  have s0 : ∀ v, setG (setG (mpt h 103 μ) 103 14 v) 103 11 ((hG (setG (mpt h 103 μ) 103 14 v) 103 11) + nI 0) = mpt h 103 (up μ 0 14 v) := fun v => by
    rw [mpt_set0, mpt_get0, up_n (by omega), hp, add_n0, mpt_set0, up_id]
    rw [up_n (by omega)]; exact hp
  have s1 : ∀ v, setG (setG (mpt h 103 μ) 103 14 v) 103 11 ((hG (setG (mpt h 103 μ) 103 14 v) 103 11) + nI 1) = mpt h 103 (up (up μ 0 14 v) 0 11 (nI (p + 1))) := fun v => by
    rw [mpt_set0, mpt_get0, up_n (by omega), hp, nI_s, mpt_set0]
  have ib : ¬ hG (mpt h 103 μ) 103 5 ≤ hG (mpt h 103 μ) 103 11 → vp_in (hG (mpt h 103 μ) 103 11) 80 := fun z => by
    rw [e5, e11, nI_leI (by omega) (by omega)] at z
    rw [e11]
    exact inb (by omega)
  have hn : ¬ hG (mpt h 103 μ) 103 5 ≤ hG (mpt h 103 μ) 103 11 → p < n := fun z => by
    rw [e5, e11, nI_leI (by omega) (by omega)] at z
    omega
  refine r_M_readsKey_0 S.1 S.f4.1 S.f4.2 (fun z => ?_) ib (fun z _ => ib z) (fun z y => ?_) (fun z _ _ => ib z) (fun z y y2 => ?_) (fun z _ _ => ib z) (fun z y y2 => ?_)
  · rw [e5, e11, nI_leI (by omega) (by omega)] at z
    rw [s0]
    exact r_M_readsKey_49 (H2 (fun q => by omega) _) (by decide)
  · have hr := (T.2.2 p (hn z)).2
    rw [tm_c T hp (hn z), nI_ltI (by omega) (by omega)] at y
    rw [s0]
    exact r_M_readsKey_49 (H2 (fun q => by omega) _) (by decide)
  · have hr := (T.2.2 p (hn z)).2
    rw [tm_c T hp (hn z), nI_ltI (by omega) (by omega)] at y2
    rw [s0]
    exact r_M_readsKey_49 (H2 (fun q => by omega) _) (by decide)
  · have hr := (T.2.2 p (hn z)).2
    rw [tm_c T hp (hn z), nI_ltI (by omega) (by omega)] at y
    rw [tm_c T hp (hn z), nI_ltI (by omega) (by omega)] at y2
    rw [s1, tm_c T hp (hn z), pk_sub (by omega)]
    exact r_M_readsKey_49 (H1 (hn z) (by omega) (by omega)) (by decide)
/-- digits -/
def dgB (tx : Nat → Nat) (n i : Nat) : Prop := i < n ∧ 48 ≤ tx i ∧ tx i ≤ 57
def vD (tx : Nat → Nat) (n : Nat) : Nat → Nat → Nat → Nat × Nat
  | 0, i, x => (x, i)
  | m + 1, i, x => if i < n ∧ 48 ≤ tx i ∧ tx i ≤ 57 then vD tx n m (i + 1) (10 * x + (tx i - 48)) else (x, i)
theorem vD_s {tx : Nat → Nat} {n m i x : Nat} : vD tx n (m + 1) i x = if i < n ∧ 48 ≤ tx i ∧ tx i ≤ 57 then vD tx n m (i + 1) (10 * x + (tx i - 48)) else (x, i) := rfl
theorem vD_le {tx : Nat → Nat} {n : Nat} : ∀ m i x, i ≤ (vD tx n m i x).2 ∧ (vD tx n m i x).2 ≤ i + m ∧ ((vD tx n m i x).2 < i + m → ¬ dgB tx n (vD tx n m i x).2) ∧ ∀ j, i ≤ j → j < (vD tx n m i x).2 → dgB tx n j := by
  intro m
  induction m with
  | zero => intro i x; exact ⟨Nat.le_refl _, Nat.le_refl _, fun z => absurd z (Nat.lt_irrefl _), fun j a b => absurd (Nat.lt_of_le_of_lt a b) (Nat.lt_irrefl _)⟩
  | succ m ih =>
    intro i x
    rw [vD_s]
    by_cases q : i < n ∧ 48 ≤ tx i ∧ tx i ≤ 57
    · rw [if_pos q]
      obtain ⟨a, b, d, e⟩ := ih (i + 1) (10 * x + (tx i - 48))
      refine ⟨by omega, by omega, fun z => d (by omega), fun j u v => ?_⟩
      by_cases w : j = i
      · rw [w]; exact q
      · exact e j (by omega) v
    · rw [if_neg q]
      exact ⟨Nat.le_refl _, Nat.le_add_right _ _, fun _ => q, fun j a b => absurd (Nat.lt_of_le_of_lt a b) (Nat.lt_irrefl _)⟩
def sgV (b : Bool) (k : Nat) : Int32 := if b = true then -(nI k) else nI k
def sg1 (b : Bool) : Int32 := if b = true then -(nI 1) else nI 1
theorem sg_step (b : Bool) (x d : Nat) : (nI 10 * sgV b x) + (sg1 b * nI d) = sgV b (10 * x + d) := by
  cases b
  · show nI 10 * nI x + nI 1 * nI d = nI (10 * x + d)
    rw [pk_mul, pk_mul, nI_add, Nat.one_mul]
  · show nI 10 * -(nI x) + -(nI 1) * nI d = -(nI (10 * x + d))
    rw [Int32.mul_neg, Int32.neg_mul, ← Int32.sub_eq_add_neg, ← Int32.neg_add, pk_mul, pk_mul, nI_add, Nat.one_mul]
def ngB (tx : Nat → Nat) (n p : Nat) : Bool := decide (p < n) && decide (tx p = 45)
def fsN (tx : Nat → Nat) (n p : Nat) : Nat := if ngB tx n p = true then p + 1 else p
theorem s_M_readsValue {h : sn_H} {μ : sn_V} {n p : Nat} {tx : Nat → Nat} {Q : Option Value → sn_H → Prop} (S : MoS h 103) (T : TxM μ n tx) (hp : μ 0 11 = nI p) (hpn : p ≤ n)
    (H : ∀ μ', psc μ μ' → (∀ k, k ≠ 11 → k ≠ 15 → μ' 0 k = μ 0 k) → μ' 0 11 = nI (vD tx n 3 (fsN tx n p) 0).2 → μ' 0 15 = sgV (ngB tx n p) (vD tx n 3 (fsN tx n p) 0).1 → Q (some (.int (bi (decide (fsN tx n p < (vD tx n 3 (fsN tx n p) 0).2))))) (mpt h 103 μ')) :
    wpE 168 0 [some (.ref 103), none, none] [] (mpt h 103 μ) (0, 0) Q := by
  have n80 := T.1
  -- the loop
  have loop : ∀ (b : Bool) (f : Nat), f ≤ n → (∀ μ', psc μ μ' → (∀ k, k ≠ 11 → k ≠ 15 → μ' 0 k = μ 0 k) → μ' 0 11 = nI (vD tx n 3 f 0).2 → μ' 0 15 = sgV b (vD tx n 3 f 0).1 → Q (some (.int (bi (decide (f < (vD tx n 3 f 0).2))))) (mpt h 103 μ')) →
      ∀ (r m x : Nat) (μ1 : sn_V), m + r = 3 → vD tx n 3 f 0 = vD tx n r (f + m) x → f + m ≤ n → psc μ μ1 → (∀ k, k ≠ 11 → k ≠ 15 → μ1 0 k = μ 0 k) → μ1 0 11 = nI (f + m) → μ1 0 15 = sgV b x →
      wpE 168 22 [some (.ref 103), some (.int (sg1 b)), some (.int (nI m))] [] (mpt h 103 μ1) (0, 0) Q := by
    intro b f hf K r
    induction r with
    | zero =>
      intro m x μ1 hm e hle ps fr h11 h15
      have em : m = 3 := hm
      subst em
      have e' : vD tx n 3 f 0 = (x, f + 3) := e
      rw [e'] at K
      have KK := K μ1 ps fr h11 h15
      rw [decide_eq_true (show f < (x, f + 3).2 from by show f < f + 3; omega)] at KK
      have nn : ∀ {P : Prop}, ¬ nI 3 ≤ nI 3 → P := fun z => absurd (Int32.le_refl _) z
      exact r_M_readsValue_22 S.1 S.f4.1 S.f4.2 (fun _ z => absurd z (by decide)) (fun _ _ => KK) nn nn nn nn nn nn nn nn nn
    | succ r ih =>
      intro m x μ1 hm e hle ps fr h11 h15
      have T1 := T.ps ps
      obtain ⟨e5, e11⟩ := tm_e (h := h) T1 h11
      rw [@vD_s tx n r (f + m) x] at e
      -- an end
      have stop : ¬ (f + m < n ∧ 48 ≤ tx (f + m) ∧ tx (f + m) ≤ 57) → (nI m ≤ 0 → Q (some (.int (nI 0))) (mpt h 103 μ1)) ∧ (¬ nI m ≤ 0 → Q (some (.int (nI 1))) (mpt h 103 μ1)) := by
        intro q
        rw [if_neg q] at e
        rw [e] at K
        have KK := K μ1 ps fr h11 h15
        rw [nI_le0 (by omega)]
        refine ⟨fun z => ?_, fun z => ?_⟩
        · rw [decide_eq_false (show ¬ f < (x, f + m).2 from by show ¬ f < f + m; omega)] at KK
          exact KK
        · rw [decide_eq_true (show f < (x, f + m).2 from by show f < f + m; omega)] at KK
          exact KK
      have nb : ∀ {P : Prop}, nI 3 ≤ nI m → P := fun z => absurd z (nI_ge (by omega) (by omega))
      have hn : ¬ hG (mpt h 103 μ1) 103 5 ≤ hG (mpt h 103 μ1) 103 11 → f + m < n := fun z => by
        rw [e5, e11, nI_leI (by omega) (by omega)] at z
        omega
      have s1 : ∀ z : ¬ hG (mpt h 103 μ1) 103 5 ≤ hG (mpt h 103 μ1) 103 11, hG (mpt h 103 μ1) (103 + 4) (hG (mpt h 103 μ1) 103 11).toNatClampNeg < nI 48 → ¬ (f + m < n ∧ 48 ≤ tx (f + m) ∧ tx (f + m) ≤ 57) := fun z y q => by
        rw [tm_c T1 h11 (hn z), nI_ltI (by omega) (by omega)] at y
        omega
      have s2 : ∀ z : ¬ hG (mpt h 103 μ1) 103 5 ≤ hG (mpt h 103 μ1) 103 11, nI 57 < hG (mpt h 103 μ1) (103 + 4) (hG (mpt h 103 μ1) 103 11).toNatClampNeg → ¬ (f + m < n ∧ 48 ≤ tx (f + m) ∧ tx (f + m) ≤ 57) := fun z y q => by
        rw [tm_c T1 h11 (hn z), nI_ltI (by omega) (by omega)] at y
        omega
      have s3 : hG (mpt h 103 μ1) 103 5 ≤ hG (mpt h 103 μ1) 103 11 → ¬ (f + m < n ∧ 48 ≤ tx (f + m) ∧ tx (f + m) ≤ 57) := fun z q => by
        rw [e5, e11, nI_leI (by omega) (by omega)] at z
        omega
      have ib : ¬ hG (mpt h 103 μ1) 103 5 ≤ hG (mpt h 103 μ1) 103 11 → vp_in (hG (mpt h 103 μ1) 103 11) 80 := fun z => by
        have := hn z
        rw [e11]
        exact inb (by omega)
      refine r_M_readsValue_22 S.1 S.f4.1 S.f4.2 nb nb (fun _ z y => (stop (s3 z)).1 y) (fun _ z y => (stop (s3 z)).2 y) (fun _ z => ib z) (fun _ z y w => (stop (s1 z y)).1 w) (fun _ z y w => (stop (s1 z y)).2 w) (fun _ z _ y w => (stop (s2 z y)).1 w) (fun _ z _ y w => (stop (s2 z y)).2 w) (fun _ z _ _ => ib z) (fun _ z y y2 => ?_)
      have hlt := hn z
      have hr := (T.2.2 (f + m) hlt).2
      rw [tm_c T1 h11 hlt, nI_ltI (by omega) (by omega)] at y
      rw [tm_c T1 h11 hlt, nI_ltI (by omega) (by omega)] at y2
      have dg : f + m < n ∧ 48 ≤ tx (f + m) ∧ tx (f + m) ≤ 57 := ⟨hlt, by omega, by omega⟩
      rw [if_pos dg] at e
      have g15 : hG (mpt h 103 μ1) 103 15 = sgV b x := by rw [mpt_get0]; exact h15
      rw [tm_c T1 h11 hlt, g15, pk_sub (by omega), sg_step, mpt_set0, mpt_get0, up_n (by omega), h11, nI_s, mpt_set0, nI_s]
      refine r_M_readsValue_83 (ih (m + 1) (10 * x + (tx (f + m) - 48)) _ (by omega) (by rw [← Nat.add_assoc]; exact e) (by omega) ((ps.tr (psc_up (by omega))).tr (psc_up (by omega))) (fun k a d => by rw [up_n (by omega), up_n (by omega)]; exact fr k a d) (by rw [up_s, Nat.add_assoc]) (by rw [up_n (by omega), up_s]))
  have s15 : ∀ μ1, setG (mpt h 103 μ1) 103 15 (nI 0) = mpt h 103 (up μ1 0 15 (nI 0)) := fun μ1 => mpt_set0
  refine r_M_readsValue_0 S.1 (s_M_isNext S T hp hpn (by omega) (fun a b => ?_) (fun a => ?_))
  · have en : ngB tx n p = true := by unfold ngB; rw [decide_eq_true a, decide_eq_true b]; rfl
    have ef : fsN tx n p = p + 1 := if_pos en
    rw [en, ef] at H
    refine r_M_readsValue_6 S.1 (fun z => absurd z bi_t) (fun _ => ?_)
    rw [s15]
    exact loop true (p + 1) (by omega) H 3 0 0 _ (Nat.zero_add _) rfl (by omega) ((psc_up (by omega)).tr (psc_up (by omega))) (fun k a d => by rw [up_n (by omega), up_n (by omega)]) (by rw [up_n (by omega), up_s]) (by rw [up_s]; decide)
  · have en : ngB tx n p = false := by
      unfold ngB
      by_cases u : p < n
      · rw [decide_eq_false (p := tx p = 45) (fun v => a ⟨u, v⟩), Bool.and_false]
      · rw [decide_eq_false u]; rfl
    have ef : fsN tx n p = p := if_neg (by rw [en]; decide)
    rw [en, ef] at H
    refine r_M_readsValue_6 S.1 (fun _ => ?_) (fun z => absurd bi_f z)
    rw [s15]
    exact loop false p hpn H 3 0 0 _ (Nat.zero_add _) rfl (by omega) (psc_up (by omega)) (fun k a d => by rw [up_n (by omega)]) (by rw [up_n (by omega)]; exact hp) up_s
