/-! ===== class and law: the relation of their numbers ===== -/
def SR (c : Nat) (σ : sn_V) (cc v t : Nat → Int32) (i : Nat) : Prop :=
  (¬ bitP (σ 0 3) i ∧ t (3 * i) = -(nI 1)) ∨
  (bitP (σ 0 3) i ∧ ∃ s r w, (s ≤ c ∧ r < 16 ∧ w < 16) ∧ (t (3 * i) = nI s ∧ σ 6 i = nI s) ∧ (t (3 * i + 1) = nI r ∧ σ 7 i = nI r) ∧ (t (3 * i + 2) = nI w ∧ σ 8 i = nI w) ∧ ∀ k, k < 4 → σ 9 (i * 12 + k) = nI (verN cc k s) ∧ σ 10 (i * 12 + k) = if bitP (nI w) k then t (12 + 4 * i + k) else valN cc v k s)
def CR (σ : sn_V) (cc : Nat → Int32) (n : Nat) : Prop :=
  ∃ s r w, (s < n ∧ r < 16 ∧ w < 16) ∧ (cc n = nI s ∧ σ 6 (7 + n) = nI s) ∧ (cc (16 + n) = nI r ∧ σ 7 (7 + n) = nI r) ∧ (cc (32 + n) = nI w ∧ σ 8 (7 + n) = nI w) ∧ ∀ k, k < 4 → σ 9 ((7 + n) * 12 + k) = nI (verN cc k s)
def PR (c : Nat) (σ : sn_V) (q cc v t : Nat → Int32) : Prop :=
  c ≤ 15 ∧ (σ 0 1 = nI c ∧ q 0 = nI c) ∧ (∃ p, p < 3 ∧ σ 0 0 = nI p ∧ q 1 = nI p) ∧ ((∀ r, r < 3 → q (2 + r) = σ 1 (r + 1)) ∧ q 5 = σ 0 2) ∧ (∀ j, j < 3 → (∃ m, m < 16 ∧ q (6 + 2 * j) = nI m ∧ σ 2 j = nI m) ∧ q (7 + 2 * j) = σ 3 j) ∧
  (∀ k, k < 4 → σ 4 k = valN cc v k c ∧ σ 5 k = nI (verN cc k c)) ∧ (∃ w, w < 16 ∧ σ 0 3 = nI w) ∧ (∀ i, i < 4 → SR c σ cc v t i) ∧ ∀ n, 1 ≤ n → n ≤ c → CR σ cc n
theorem hi_bit : ∀ w, w < 16 → ∀ k, k < 32 → 4 ≤ k → ¬ bitP (nI w) k := by decide +kernel
theorem PR.c15 {c : Nat} {σ : sn_V} {q cc v t : Nat → Int32} (R : PR c σ q cc v t) : c ≤ 15 := R.1
theorem PR.m16 {c : Nat} {σ : sn_V} {q cc v t : Nat → Int32} (R : PR c σ q cc v t) : min 16 c = c := by have := R.1; omega
theorem PR.x {c : Nat} {σ : sn_V} {q cc v t : Nat → Int32} (R : PR c σ q cc v t) : σ 0 1 = nI c := R.2.1.1
theorem PR.q0 {c : Nat} {σ : sn_V} {q cc v t : Nat → Int32} (R : PR c σ q cc v t) : q 0 = nI c := R.2.1.2
theorem PR.pol {c : Nat} {σ : sn_V} {q cc v t : Nat → Int32} (R : PR c σ q cc v t) : ∃ p, p < 3 ∧ σ 0 0 = nI p ∧ q 1 = nI p := R.2.2.1
theorem PR.con {c : Nat} {σ : sn_V} {q cc v t : Nat → Int32} (R : PR c σ q cc v t) {j : Nat} (hj : j < 3) : (∃ m, m < 16 ∧ q (6 + 2 * j) = nI m ∧ σ 2 j = nI m) ∧ q (7 + 2 * j) = σ 3 j := R.2.2.2.2.1 j hj
theorem PR.val {c : Nat} {σ : sn_V} {q cc v t : Nat → Int32} (R : PR c σ q cc v t) {k : Nat} (hk : k < 4) : σ 4 k = valN cc v k c ∧ σ 5 k = nI (verN cc k c) := R.2.2.2.2.2.1 k hk
theorem PR.op {c : Nat} {σ : sn_V} {q cc v t : Nat → Int32} (R : PR c σ q cc v t) : ∃ w, w < 16 ∧ σ 0 3 = nI w := R.2.2.2.2.2.2.1
theorem PR.slot {c : Nat} {σ : sn_V} {q cc v t : Nat → Int32} (R : PR c σ q cc v t) {i : Nat} (hi : i < 4) : SR c σ cc v t i := R.2.2.2.2.2.2.2.1 i hi
theorem PR.com {c : Nat} {σ : sn_V} {q cc v t : Nat → Int32} (R : PR c σ q cc v t) {n : Nat} (h1 : 1 ≤ n) (h2 : n ≤ c) : CR σ cc n := R.2.2.2.2.2.2.2.2 n h1 h2
theorem PR.up {c : Nat} {σ : sn_V} {q cc v t : Nat → Int32} (R : PR c σ q cc v t) {i : Nat} (hi : i < 4) (ho : bitP (σ 0 3) i) : ∃ s r w, (s ≤ c ∧ r < 16 ∧ w < 16) ∧ (t (3 * i) = nI s ∧ σ 6 i = nI s) ∧ (t (3 * i + 1) = nI r ∧ σ 7 i = nI r) ∧ (t (3 * i + 2) = nI w ∧ σ 8 i = nI w) ∧ ∀ k, k < 4 → σ 9 (i * 12 + k) = nI (verN cc k s) ∧ σ 10 (i * 12 + k) = if bitP (nI w) k then t (12 + 4 * i + k) else valN cc v k s := by
  rcases R.slot hi with ⟨a, _⟩ | ⟨_, b⟩
  · exact absurd ho a
  · exact b
theorem PR.is {c : Nat} {σ : sn_V} {q cc v t : Nat → Int32} (R : PR c σ q cc v t) {i : Nat} (hi : i < 4) : 0 ≤ t (3 * i) ↔ bitP (σ 0 3) i := by
  have c15 := R.c15
  rcases R.slot hi with ⟨a, b⟩ | ⟨a, s, r, w, b, d, _⟩
  · rw [b]; exact ⟨fun z => absurd z (by decide), fun z => absurd z a⟩
  · rw [d.1]; exact ⟨fun _ => a, fun _ => nI_pos' (by omega)⟩
theorem PR.hi {c : Nat} {σ : sn_V} {q cc v t : Nat → Int32} (R : PR c σ q cc v t) {i : Nat} (h4 : 4 ≤ i) (hi : i < 32) : ¬ bitP (σ 0 3) i := by
  obtain ⟨w, a, b⟩ := R.op
  rw [b]
  exact hi_bit w a i hi h4
/-- a node of the law and its row of the class -/
def spN (P : Nat → Nat → Int32) (a : Nat) : Nat := (P 0 a).toNatClampNeg
def ND (σ : sn_V) (cc : Nat → Int32) (P : Nat → Nat → Int32) (a r : Nat) : Prop :=
  (P 0 a = nI (spN P a) ∧ spN P a ≤ 15) ∧ (∃ x, x < 16 ∧ P 1 a = nI x ∧ σ 7 r = nI x) ∧ (∃ x, x < 16 ∧ P 2 a = nI x ∧ σ 8 r = nI x) ∧ ∀ k, k < 4 → σ 9 (r * 12 + k) = nI (verN cc k (spN P a))
theorem PR.nk {c : Nat} {σ : sn_V} {q cc v t : Nat → Int32} (R : PR c σ q cc v t) (tt : Nat → Int32) {a : Nat} (h1 : 1 ≤ a) (h2 : a ≤ c) : ND σ cc (prt c cc tt) a (7 + a) := by
  have c15 := R.c15
  obtain ⟨s, r, w, ⟨b1, b2, b3⟩, ⟨d1, d2⟩, ⟨e1, e2⟩, ⟨f1, f2⟩, g⟩ := R.com h1 h2
  have p0 : prt c cc tt 0 a = nI s := by unfold prt; rw [if_pos h2, ← d1]; congr 1; omega
  have es : spN (prt c cc tt) a = s := by unfold spN; rw [p0, cl (by omega)]
  refine ⟨by rw [es]; exact ⟨p0, by omega⟩, ⟨r, b2, ?_, e2⟩, ⟨w, b3, ?_, f2⟩, by rw [es]; exact g⟩
  · unfold prt; rw [if_pos h2, ← e1]
  · unfold prt; rw [if_pos h2, ← f1]
theorem PR.no {c : Nat} {σ : sn_V} {q cc v t tt : Nat → Int32} (R : PR c σ q cc v t) {i : Nat} (hi : i < 4) (ho : bitP (σ 0 3) i) (ht : ∀ w, w < 3 → tt w = t (3 * i + w)) : ND σ cc (prt c cc tt) (c + 1) i := by
  have c15 := R.c15
  obtain ⟨s, r, w, ⟨b1, b2, b3⟩, ⟨d1, d2⟩, ⟨e1, e2⟩, ⟨f1, f2⟩, g⟩ := R.up hi ho
  have n : ¬ c + 1 ≤ c := by omega
  have p0 : prt c cc tt 0 (c + 1) = nI s := by unfold prt; rw [if_neg n, ht 0 (by omega)]; exact d1
  have es : spN (prt c cc tt) (c + 1) = s := by unfold spN; rw [p0, cl (by omega)]
  refine ⟨by rw [es]; exact ⟨p0, by omega⟩, ⟨r, b2, ?_, e2⟩, ⟨w, b3, ?_, f2⟩, by rw [es]; exact fun k hk => (g k hk).1⟩
  · unfold prt; rw [if_neg n, ht 1 (by omega), e1]
  · unfold prt; rw [if_neg n, ht 2 (by omega), f1]
theorem anyN_cut {p : Nat → Bool} (h : ∀ k, 4 ≤ k → k < 12 → p k = false) : anyN p 12 = anyN p 4 := by
  rw [Bool.eq_iff_iff, anyN_t, anyN_t]
  constructor
  · rintro ⟨k, a, b⟩
    by_cases q : k < 4
    · exact ⟨k, q, b⟩
    · rw [h k (by omega) a] at b; exact absurd b (by decide)
  · rintro ⟨k, a, b⟩; exact ⟨k, by omega, b⟩
theorem nd_B1 {σ : sn_V} {cc : Nat → Int32} {P : Nat → Nat → Int32} {a b ra rb : Nat} (A : ND σ cc P a ra) (B : ND σ cc P b rb) (ha : a < 2 ^ 31) (hb : b < 2 ^ 31) : dB1 σ ra (nI a) rb (nI b) = lB1 P a b := by
  obtain ⟨_, _, ⟨x, _, x2, x3⟩, _⟩ := A
  obtain ⟨_, _, ⟨y, _, y2, y3⟩, _⟩ := B
  unfold dB1 lB1
  rw [x2, x3, y2, y3]
  congr 1
  rw [decide_eq_decide, nI_leI hb ha]
  omega
theorem nd_B2 {σ : sn_V} {cc : Nat → Int32} {P : Nat → Nat → Int32} {a b ra rb : Nat} (A : ND σ cc P a ra) (B : ND σ cc P b rb) (ha : a < 2 ^ 31) : dB2 σ ra (nI a) rb 12 = lB2 P cc (spN P) a b 4 := by
  obtain ⟨_, _, ⟨x, x1, x2, x3⟩, _⟩ := A
  obtain ⟨⟨_, s15⟩, ⟨y, _, y2, y3⟩, _, g⟩ := B
  unfold dB2 lB2
  rw [anyN_cut (fun k k4 k12 => by rw [x3, decide_eq_false (hi_bit x x1 k (by omega) k4), Bool.false_and, Bool.false_and])]
  refine anyN_cg fun k hk => ?_
  rw [x2, x3, y2, y3, g k hk]
  congr 1
  have := @verN_le cc k (spN P b)
  rw [decide_eq_decide, nI_eq (by omega) ha]
theorem nd_B3 {σ : sn_V} {cc : Nat → Int32} {P : Nat → Nat → Int32} {a b ra rb : Nat} (A : ND σ cc P a ra) (B : ND σ cc P b rb) (hb : b < 2 ^ 31) : dB3 σ ra rb (nI b) 12 = lB3 P cc (spN P) a b 4 := by
  obtain ⟨⟨_, s15⟩, ⟨x, x1, x2, x3⟩, _, g⟩ := A
  obtain ⟨_, _, ⟨y, _, y2, y3⟩, _⟩ := B
  unfold dB3 lB3
  rw [anyN_cut (fun k k4 k12 => by rw [x3, decide_eq_false (hi_bit x x1 k (by omega) k4), Bool.false_and, Bool.false_and])]
  refine anyN_cg fun k hk => ?_
  rw [x2, x3, y2, y3, g k hk]
  congr 1
  have := @verN_le cc k (spN P a)
  rw [decide_eq_decide, nI_leI hb (by omega)]
  omega
theorem nd_S {σ : sn_V} {cc : Nat → Int32} {P : Nat → Nat → Int32} {a b ra rb : Nat} (A : ND σ cc P a ra) (B : ND σ cc P b rb) (ha : a < 2 ^ 31) (hb : b < 2 ^ 31) : dS σ ra (nI a) rb (nI b) = lS P cc (spN P) a b := by
  unfold dS lS
  rw [nd_B1 A B ha hb, nd_B2 A B ha, nd_B3 A B hb]
/-- the graphs -/
theorem lR_gR {σ : sn_V} {cc : Nat → Int32} {P : Nat → Nat → Int32} {N : Nat} {nr nn : Nat → Nat} (hN : N < 2 ^ 30) (h : ∀ i, i < N → ND σ cc P (i + 1) (nr i) ∧ nn i = i + 1) : lR N (lS P cc (spN P)) (nI 7) = sh (gR σ N nr nn) := by
  funext a b
  rw [Bool.eq_iff_iff, lR_t, sh_t, gR_iff]
  unfold dnA ed
  constructor
  · rintro ⟨⟨a1, a2⟩, ⟨b1, b2⟩, ab, z⟩
    obtain ⟨A, ea⟩ := h (a - 1) (by omega)
    obtain ⟨B, eb⟩ := h (b - 1) (by omega)
    refine ⟨a1, b1, ⟨by omega, by omega, by omega⟩, ?_⟩
    rw [ea, eb, nd_S A B (by omega) (by omega), show a - 1 + 1 = a by omega, show b - 1 + 1 = b by omega]
    unfold lS at z ⊢
    rw [dV_7] at z
    exact z
  · rintro ⟨a1, b1, ⟨a2, b2, ab⟩, z⟩
    obtain ⟨A, ea⟩ := h (a - 1) (by omega)
    obtain ⟨B, eb⟩ := h (b - 1) (by omega)
    refine ⟨⟨a1, by omega⟩, ⟨b1, by omega⟩, by omega, ?_⟩
    rw [ea, eb, nd_S A B (by omega) (by omega), show a - 1 + 1 = a by omega, show b - 1 + 1 = b by omega] at z
    unfold lS at z ⊢
    rw [dV_7]
    exact z
theorem lR_gO {σ : sn_V} {cc : Nat → Int32} {P : Nat → Nat → Int32} {N : Nat} {nr nn : Nat → Nat} (hN : N < 2 ^ 30) (h : ∀ i, i < N → ND σ cc P (i + 1) (nr i) ∧ nn i = i + 1) : lR N (lS P cc (spN P)) (nI 4) = sh (gO σ N nr nn) := by
  funext a b
  rw [Bool.eq_iff_iff, lR_t, sh_t, gO_iff]
  unfold dnA o4 lS
  rw [dV_0, Bool.not_eq_false]
  constructor
  · rintro ⟨⟨a1, a2⟩, ⟨b1, b2⟩, ab, z⟩
    obtain ⟨A, ea⟩ := h (a - 1) (by omega)
    obtain ⟨B, eb⟩ := h (b - 1) (by omega)
    refine ⟨a1, b1, ⟨by omega, by omega, by omega⟩, ?_⟩
    rw [eb, nd_B3 A B (by omega), show a - 1 + 1 = a by omega, show b - 1 + 1 = b by omega]
    exact z
  · rintro ⟨a1, b1, ⟨a2, b2, ab⟩, z⟩
    obtain ⟨A, ea⟩ := h (a - 1) (by omega)
    obtain ⟨B, eb⟩ := h (b - 1) (by omega)
    refine ⟨⟨a1, by omega⟩, ⟨b1, by omega⟩, by omega, ?_⟩
    rw [eb, nd_B3 A B (by omega), show a - 1 + 1 = a by omega, show b - 1 + 1 = b by omega] at z
    exact z
theorem PR.nodes {c : Nat} {σ : sn_V} {q cc v t : Nat → Int32} (R : PR c σ q cc v t) (tt : Nat → Int32) : ∀ i, i < min 16 c → ND σ cc (prt c cc tt) (i + 1) (nrC c (min 16 c) i) ∧ nnC c (min 16 c) i = i + 1 := by
  intro i hi
  have c15 := R.c15
  rw [R.m16] at hi ⊢
  unfold nrC nnC
  refine ⟨?_, by omega⟩
  rw [show 8 + (c - c + i) % 16 = 7 + (i + 1) by omega]
  exact R.nk tt (by omega) (by omega)
theorem PR.nodeJ {c : Nat} {σ : sn_V} {q cc v t tt : Nat → Int32} (R : PR c σ q cc v t) {i : Nat} (hi : i < 4) (ho : bitP (σ 0 3) i) (ht : ∀ w, w < 3 → tt w = t (3 * i + w)) : ∀ j, j < min 16 c + 1 → ND σ cc (prt c cc tt) (j + 1) (nrJ (min 16 c) i (nrC c (min 16 c)) j) ∧ nrJ (min 16 c) (c + 1) (nnC c (min 16 c)) j = j + 1 := by
  intro j hj
  have c15 := R.c15
  have m := R.m16
  unfold nrJ
  by_cases q : j = min 16 c
  · rw [if_pos q, if_pos q, q, m]
    exact ⟨R.no hi ho ht, rfl⟩
  · rw [if_neg q, if_neg q]
    exact R.nodes tt j (by omega)
theorem PR.gk {c : Nat} {σ : sn_V} {q cc v t : Nat → Int32} (R : PR c σ q cc v t) (tt : Nat → Int32) : lR c (lS (prt c cc tt) cc (spN (prt c cc tt))) (nI 7) = sh (gRk σ c) := by
  have h := lR_gR (by have := R.c15; have := R.m16; omega) (R.nodes tt)
  rw [R.m16] at h
  unfold gRk
  rw [R.m16]
  exact h
theorem PR.go {c : Nat} {σ : sn_V} {q cc v t tt : Nat → Int32} (R : PR c σ q cc v t) {i : Nat} (hi : i < 4) (ho : bitP (σ 0 3) i) (ht : ∀ w, w < 3 → tt w = t (3 * i + w)) : lR (c + 1) (lS (prt c cc tt) cc (spN (prt c cc tt))) (nI 7) = sh (gRo σ c i) ∧ lR (c + 1) (lS (prt c cc tt) cc (spN (prt c cc tt))) (nI 4) = sh (gOo σ c i) := by
  have h1 := lR_gR (by have := R.c15; have := R.m16; omega) (R.nodeJ hi ho ht)
  have h2 := lR_gO (by have := R.c15; have := R.m16; omega) (R.nodeJ hi ho ht)
  have e : min 16 c + 1 = c + 1 := by rw [R.m16]
  unfold gRo gOo
  refine ⟨?_, ?_⟩
  · rw [← h1, e]
  · rw [← h2, e]
theorem PR.hsk {c : Nat} {σ : sn_V} {q cc v t : Nat → Int32} (R : PR c σ q cc v t) (tt : Nat → Int32) : ∀ x, 1 ≤ x → x ≤ c → prt c cc tt 0 x = nI (spN (prt c cc tt) x) ∧ spN (prt c cc tt) x ≤ 15 := fun _ a b => (R.nk tt a b).1
theorem PR.hso {c : Nat} {σ : sn_V} {q cc v t tt : Nat → Int32} (R : PR c σ q cc v t) {i : Nat} (hi : i < 4) (ho : bitP (σ 0 3) i) (ht : ∀ w, w < 3 → tt w = t (3 * i + w)) : ∀ x, 1 ≤ x → x ≤ c + 1 → prt c cc tt 0 x = nI (spN (prt c cc tt) x) ∧ spN (prt c cc tt) x ≤ 15 := fun x a b => by
  by_cases q : x = c + 1
  · rw [q]; exact (R.no hi ho ht).1
  · exact (R.nk tt a (by omega)).1
/-- reasons to refuse: something newer -/
theorem PR.ov {c : Nat} {σ : sn_V} {q cc v t : Nat → Int32} (R : PR c σ q cc v t) {i : Nat} (hi : i < 4) (ho : bitP (σ 0 3) i) : ovC σ i = anyN (fun k => decide (bitP (t (3 * i + 2)) k) && decide (t (3 * i) < nI (verN cc k c))) 4 := by
  obtain ⟨s, r, w, ⟨b1, b2, b3⟩, ⟨d1, d2⟩, _, ⟨f1, f2⟩, _⟩ := R.up hi ho
  unfold ovC
  rw [anyN_cut (fun k k4 k12 => by rw [f2, decide_eq_false (hi_bit w b3 k (by omega) k4), Bool.false_and])]
  refine anyN_cg fun k hk => ?_
  rw [f2, f1, d1, d2, (R.val hk).2]
/-- pivots -/
theorem pv_law {O : Nat → Nat → Bool} {c : Nat} (hc : c ≤ 15) (hO : ∀ i j, O i j = true → i < c + 1 ∧ j < c + 1) : pvK O (c + 1) = true ↔ ∃ p x, (1 ≤ p ∧ p ≤ c + 1) ∧ (1 ≤ x ∧ x ≤ c + 1) ∧ sh O x p = true ∧ (∃ y, y < 32 ∧ sh O p y = true) ∧ (x = c + 1 ∨ p = c + 1 ∨ sh O p (c + 1) = true) := by
  rw [pvK_t]
  unfold pivB pvt
  rw [Nat.add_sub_cancel]
  constructor
  · rintro (⟨⟨a, a1, a2⟩, b, b1, b2⟩ | ⟨j, j1, j2, _, b, b1, b2⟩ | ⟨j, j1, ⟨⟨a, a1, a2⟩, _⟩, j2⟩)
    · exact ⟨c + 1, a + 1, ⟨by omega, by omega⟩, ⟨by omega, by omega⟩, sh_ss.mpr a2, ⟨b + 1, by omega, sh_ss.mpr b2⟩, Or.inr (Or.inl rfl)⟩
    · exact ⟨j + 1, c + 1, ⟨by omega, by omega⟩, ⟨by omega, by omega⟩, sh_ss.mpr j2, ⟨b + 1, by omega, sh_ss.mpr b2⟩, Or.inl rfl⟩
    · exact ⟨j + 1, a + 1, ⟨by omega, by omega⟩, ⟨by omega, by omega⟩, sh_ss.mpr a2, ⟨c + 1, by omega, sh_ss.mpr j2⟩, Or.inr (Or.inr (sh_ss.mpr j2))⟩
  · rintro ⟨p, x, hp, hx, h1, ⟨y, hy, h2⟩, h3⟩
    obtain ⟨_, _, h1⟩ := sh_t.mp h1
    obtain ⟨_, _, h2⟩ := sh_t.mp h2
    have l1 := hO _ _ h1
    have l2 := hO _ _ h2
    rcases h3 with e | e | e
    · rw [e, Nat.add_sub_cancel] at h1
      exact Or.inr (Or.inl ⟨p - 1, l1.2, h1, ⟨c, Nat.lt_succ_self c, h1⟩, y - 1, l2.2, h2⟩)
    · rw [e, Nat.add_sub_cancel] at h1 h2
      exact Or.inl ⟨⟨x - 1, l1.1, h1⟩, y - 1, l2.2, h2⟩
    · obtain ⟨_, _, h4⟩ := sh_t.mp e
      rw [Nat.add_sub_cancel] at h4
      by_cases q : p - 1 = c
      · rw [q] at h1 h2
        exact Or.inl ⟨⟨x - 1, l1.1, h1⟩, y - 1, l2.2, h2⟩
      · exact Or.inr (Or.inr ⟨p - 1, by omega, ⟨⟨x - 1, l1.1, h1⟩, c, Nat.lt_succ_self c, h4⟩, h4⟩)
