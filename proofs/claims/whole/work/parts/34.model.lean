/-! ===== the Model: its view, its small questions ===== -/
def moLen (j : Nat) : Nat := (sn_nth [596, 596, 3576, 80, 17, 17, 16] j).getD 0
def moFld (j : Nat) : Nat := (sn_nth [0, 1, 2, 4, 7, 8, 9] j).getD 0
def MoS (h : sn_H) (m : Nat) : Prop := hK h m = (0, 5, 16) ∧ ∀ j, j < 7 → hR h m (moFld j) = some (m + (1 + j)) ∧ hK h (m + (1 + j)) = (1, 0, moLen j)
def MoA (h : sn_H) (m : Nat) (μ : sn_V) : Prop := MoS h m ∧ ∀ j, j ≤ 7 → ∀ k, hG h (m + j) k = μ j k
theorem MoS.f1 {h : sn_H} {m : Nat} (S : MoS h m) : hR h m 0 = some (m + 1) ∧ hK h (m + 1) = (1, 0, 596) := S.2 0 (by decide)
theorem MoS.f2 {h : sn_H} {m : Nat} (S : MoS h m) : hR h m 1 = some (m + 2) ∧ hK h (m + 2) = (1, 0, 596) := S.2 1 (by decide)
theorem MoS.f3 {h : sn_H} {m : Nat} (S : MoS h m) : hR h m 2 = some (m + 3) ∧ hK h (m + 3) = (1, 0, 3576) := S.2 2 (by decide)
theorem MoS.f4 {h : sn_H} {m : Nat} (S : MoS h m) : hR h m 4 = some (m + 4) ∧ hK h (m + 4) = (1, 0, 80) := S.2 3 (by decide)
theorem MoS.f5 {h : sn_H} {m : Nat} (S : MoS h m) : hR h m 7 = some (m + 5) ∧ hK h (m + 5) = (1, 0, 17) := S.2 4 (by decide)
theorem MoS.f6 {h : sn_H} {m : Nat} (S : MoS h m) : hR h m 8 = some (m + 6) ∧ hK h (m + 6) = (1, 0, 17) := S.2 5 (by decide)
theorem MoS.f7 {h : sn_H} {m : Nat} (S : MoS h m) : hR h m 9 = some (m + 7) ∧ hK h (m + 7) = (1, 0, 16) := S.2 6 (by decide)
def mpt (h : sn_H) (m : Nat) (μ : sn_V) : sn_H := (h.1, h.2.1, h.2.2.1, fun p k => if m ≤ p ∧ p ≤ m + 7 then μ (p - m) k else h.2.2.2 p k)
theorem mpt_A {h : sn_H} {m : Nat} {μ : sn_V} (S : MoS h m) : MoA (mpt h m μ) m μ := ⟨S, fun j hj k => by
  show (if m ≤ m + j ∧ m + j ≤ m + 7 then μ (m + j - m) k else _) = _
  rw [if_pos (by omega), Nat.add_sub_cancel_left]⟩
theorem mpt_mpt {h : sn_H} {m : Nat} {μ μ' : sn_V} : mpt (mpt h m μ) m μ' = mpt h m μ' := by
  unfold mpt
  simp only [Prod.mk.injEq, true_and]
  funext p k
  by_cases hp : m ≤ p ∧ p ≤ m + 7 <;> simp [hp]
theorem mpt_o {h : sn_H} {m p k : Nat} {μ : sn_V} (hp : ¬ (m ≤ p ∧ p ≤ m + 7)) : hG (mpt h m μ) p k = hG h p k := if_neg hp
theorem mpt_f {h : sn_H} {m : Nat} {μ : sn_V} : frm m (m + 7) h (mpt h m μ) := ⟨rfl, rfl, rfl, fun _ _ hq => if_neg hq⟩
theorem MoA.put {h : sn_H} {m : Nat} {μ : sn_V} (A : MoA h m μ) : h = mpt h m μ := by
  obtain ⟨n, kd, rf, gg⟩ := h
  unfold mpt
  simp only [Prod.mk.injEq, true_and]
  funext p k
  by_cases hp : m ≤ p ∧ p ≤ m + 7
  · rw [if_pos hp]
    have := A.2 (p - m) (by omega) k
    rw [show m + (p - m) = p by omega] at this
    exact this
  · rw [if_neg hp]
theorem mpt_get {h : sn_H} {m j k : Nat} {μ : sn_V} (hj : j ≤ 7) : hG (mpt h m μ) (m + j) k = μ j k := by
  show (if m ≤ m + j ∧ m + j ≤ m + 7 then μ (m + j - m) k else _) = _
  rw [if_pos (by omega), Nat.add_sub_cancel_left]
theorem mpt_get0 {h : sn_H} {m k : Nat} {μ : sn_V} : hG (mpt h m μ) m k = μ 0 k := mpt_get (j := 0) (by omega)
theorem mpt_set {h : sn_H} {m j k : Nat} {μ : sn_V} {v : Int32} (hj : j ≤ 7) : setG (mpt h m μ) (m + j) k v = mpt h m (up μ j k v) := by
  unfold mpt setG up
  simp only [Prod.mk.injEq, true_and]
  funext p i
  by_cases hp : m ≤ p ∧ p ≤ m + 7
  · simp only [hp, and_self, if_true]
    by_cases hq : p = m + j
    · subst hq; simp
    · rw [if_neg (fun z => hq z.1), if_neg (fun z => hq (by omega))]
  · rw [if_neg (fun z => hp (by omega)), if_neg hp, if_neg hp]
theorem mpt_set0 {h : sn_H} {m k : Nat} {μ : sn_V} {v : Int32} : setG (mpt h m μ) m k v = mpt h m (up μ 0 k v) := mpt_set (j := 0) (by omega)
theorem MoA.g {h : sn_H} {m k : Nat} {μ : sn_V} (A : MoA h m μ) (j : Nat) (hj : j ≤ 7) : hG h (m + j) k = μ j k := A.2 j hj k
theorem MoA.g0 {h : sn_H} {m k : Nat} {μ : sn_V} (A : MoA h m μ) : hG h m k = μ 0 k := A.2 0 (by decide) k
theorem nI0c : (nI 0).toNatClampNeg = 0 := by decide
theorem s_M_keptMany {h : sn_H} {m c : Nat} {μ : sn_V} {Q : Option Value → sn_H → Prop} (A : MoA h m μ) (hc : c < 2 ^ 30) (h0 : μ 1 0 = nI c)
    (H : Q (some (.int (nI (min 16 c)))) h) : wpE 121 0 [some (.ref m)] [] h (0, 0) Q := by
  refine r_M_keptMany_0 A.1.1 A.1.f1.1 A.1.f1.2 (inb (by decide) (by decide)) (fun z => ?_) (fun z => ?_)
  · rw [nI0c, A.g 1 (by decide), h0, nI_leI (by omega) (by omega)] at z
    rw [Nat.min_eq_left z] at H
    exact H
  · rw [nI0c, A.g 1 (by decide), h0, nI_leI (by omega) (by omega)] at z
    rw [nI0c, A.g 1 (by decide), h0]
    rw [Nat.min_eq_right (by omega)] at H
    exact H
theorem s_M_firstKept {h : sn_H} {m c : Nat} {μ : sn_V} {Q : Option Value → sn_H → Prop} (A : MoA h m μ) (hc : c < 2 ^ 30) (h0 : μ 1 0 = nI c)
    (H : Q (some (.int (nI (c - min 16 c + 1)))) h) : wpE 125 0 [some (.ref m)] [] h (0, 0) Q := by
  refine r_M_firstKept_0 A.1.1 A.1.f1.1 A.1.f1.2 (inb (by decide) (by decide)) ?_
  refine s_M_keptMany A hc h0 ?_
  refine r_M_firstKept_10 ?_
  rw [nI0c, A.g 1 (by decide), h0]
  rw [show nI c = nI (c - min 16 c) + nI (min 16 c) by rw [nI_add]; congr 1; omega, Int32.add_sub_cancel, nI_s]
  exact H
/-- a node's number; the Model's own node is 16 -/
def mnN (c a : Nat) : Nat := if a = 16 then c + 1 else c - min 16 c + 1 + a
theorem s_M_numberOf {h : sn_H} {m c a : Nat} {μ : sn_V} {Q : Option Value → sn_H → Prop} (A : MoA h m μ) (hc : c < 2 ^ 30) (ha : a ≤ 16) (h0 : μ 1 0 = nI c)
    (H : Q (some (.int (nI (mnN c a)))) h) : wpE 124 0 [some (.ref m), some (.int (nI a))] [] h (0, 0) Q := by
  unfold mnN at H
  refine r_M_numberOf_0 A.1.1 A.1.f1.1 A.1.f1.2 (fun z => ?_) (fun _ => inb (by decide) (by decide)) (fun z => ?_)
  · have : ¬ a = 16 := fun q => z (by rw [q])
    rw [if_neg this] at H
    refine s_M_firstKept A hc h0 ?_
    refine r_M_numberOf_21 ?_
    rw [nI_add]
    exact H
  · have : a = 16 := (nI_eq (by omega) (by omega)).mp z
    rw [if_pos this] at H
    rw [nI0c, A.g 1 (by decide), h0, nI_s]
    exact H
def mpN (c w a : Nat) : Nat := if a = 16 then 36 + 40 * w else 356 + 15 * (mnN c a % 16)
theorem mod16 {a : Nat} (ha : a < 2 ^ 31) : nI a - nI a / nI 16 * nI 16 = nI (a % 16) := by
  have h1 : nI a / nI 16 = nI (a / 16) := pk_div ha (by omega) (by omega)
  rw [h1, pk_mul]
  have : nI a = nI (a % 16) + nI (a / 16 * 16) := by rw [nI_add]; congr 1; omega
  rw [this, Int32.add_sub_cancel]
theorem s_M_placeOf {h : sn_H} {m c a w : Nat} {μ : sn_V} {Q : Option Value → sn_H → Prop} (A : MoA h m μ) (hc : c < 2 ^ 30) (ha : a ≤ 16) (h0 : μ 1 0 = nI c) (hw : a = 16 → μ 0 6 = nI w)
    (H : Q (some (.int (nI (mpN c w a)))) h) : wpE 123 0 [some (.ref m), some (.int (nI a))] [] h (0, 0) Q := by
  unfold mpN at H
  refine r_M_placeOf_0 A.1.1 (fun z => ?_) (fun z => ?_)
  · have : ¬ a = 16 := fun q => z (by rw [q])
    rw [if_neg this] at H
    refine s_M_numberOf A hc ha h0 ?_
    refine r_M_placeOf_24 ?_
    rw [mod16 (by unfold mnN; split <;> omega), pk_mul, nI_add]
    exact H
  · have : a = 16 := (nI_eq (by omega) (by omega)).mp z
    rw [if_pos this] at H
    rw [A.g0, hw this, pk_mul, nI_add]
    exact H
/-- a node of the Model: the own one if there is one, else a commit that is kept -/
def mNd (c : Nat) (own : Bool) (a : Nat) : Bool := if a = 16 then own else decide (a < min 16 c)
theorem s_M_isNode {h : sn_H} {m c a : Nat} {own : Bool} {μ : sn_V} {Q : Option Value → sn_H → Prop} (A : MoA h m μ) (hc : c < 2 ^ 30) (ha : a ≤ 16) (h0 : μ 1 0 = nI c) (hw : own = true ↔ ¬ μ 0 6 = -(nI 20006))
    (H : Q (some (.int (if mNd c own a = true then nI 1 else nI 0))) h) : wpE 120 0 [some (.ref m), some (.int (nI a))] [] h (0, 0) Q := by
  unfold mNd at H
  refine r_M_isNode_0 A.1.1 (fun z => ?_) (fun z z2 => ?_) (fun z z2 => ?_)
  · have n16 : ¬ a = 16 := fun q => z (by rw [q])
    rw [if_neg n16] at H
    refine s_M_keptMany A hc h0 ?_
    refine r_M_isNode_29 (fun y => ?_) (fun y => ?_)
    · rw [nI_leI (by omega) (by omega)] at y
      rw [if_neg (fun q => by have := of_decide_eq_true q; omega)] at H
      exact H
    · rw [nI_leI (by omega) (by omega)] at y
      rw [if_pos (decide_eq_true (by omega))] at H
      exact H
  · have e : a = 16 := (nI_eq (by omega) (by omega)).mp z
    rw [A.g0] at z2
    rw [if_pos e, if_neg (fun q => (hw.mp q) z2)] at H
    exact H
  · have e : a = 16 := (nI_eq (by omega) (by omega)).mp z
    rw [A.g0] at z2
    rw [if_pos e, if_pos (hw.mpr z2)] at H
    exact H
theorem s_M_ones {x : Int32} {h : sn_H} {Q : Option Value → sn_H → Prop} (H : Q (some (.int (onesI x 12))) h) : wpE 112 0 [some (.int x), none, none] [] h (0, 0) Q := by
  refine r_M_ones_0 ?_
  suffices ∀ (m i : Nat), i + m = 12 → wpE 112 4 [some (.int x), some (.int (onesI x i)), some (.int (nI i))] [] h (0, 0) Q from this 12 0 (Nat.zero_add _)
  intro m
  induction m with
  | zero =>
    intro i hi
    have e : i = 12 := hi
    subst e
    exact r_M_ones_4 (fun _ => H) (fun z => absurd (Int32.le_refl _) z)
  | succ m ih =>
    intro i hi
    refine r_M_ones_4 (fun z => absurd z (nI_ge (by omega) (by omega))) (fun _ => ?_)
    rw [nI_s]
    exact ih (i + 1) (by omega)
