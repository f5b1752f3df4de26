/-! ===== class and Model: the relation of their numbers ===== -/
def RowR (σ : sn_V) (a : Nat → Int32) (r z : Nat) : Prop := a z = σ 6 r ∧ a (z + 1) = σ 7 r ∧ a (z + 2) = σ 8 r ∧ ∀ k, k < 12 → a (z + 3 + k) = σ 9 (r * 12 + k)
def SlotR (σ : sn_V) (a : Nat → Int32) (i : Nat) : Prop :=
  a (36 + 40 * i + 39) = bi (decide (bitP (σ 0 3) i)) ∧ (bitP (σ 0 3) i → RowR σ a i (36 + 40 * i) ∧ (∃ w, w < 4096 ∧ σ 8 i = nI w) ∧ ∀ k, k < 12 → σ 10 (i * 12 + k) = if bitP (σ 8 i) k then a (36 + 40 * i + 27 + k) else a (36 + 40 * i + 15 + k))
def Rel (c : Nat) (σ : sn_V) (a : Nat → Int32) : Prop :=
  (σ 0 1 = nI c ∧ a 0 = nI c) ∧ (∃ p, p < 3 ∧ σ 0 0 = nI p ∧ a 1 = nI p) ∧ (∀ r, r < 3 → a (2 + r) = σ 1 (r + 1)) ∧ a 5 = σ 0 2 ∧ (∀ q, q < 3 → a (6 + 2 * q) = σ 2 q ∧ a (7 + 2 * q) = σ 3 q) ∧
  (∀ k, k < 12 → a (12 + k) = σ 4 k ∧ a (24 + k) = σ 5 k) ∧ (∃ w, w < 256 ∧ σ 0 3 = nI w) ∧ (∀ i, i < 8 → SlotR σ a i) ∧ ∀ n, 1 ≤ n → n ≤ c → c < n + 16 → RowR σ a (8 + (n - 1) % 16) (356 + 15 * (n % 16))
theorem Rel.c1 {c : Nat} {σ : sn_V} {a : Nat → Int32} (R : Rel c σ a) : σ 0 1 = nI c := R.1.1
theorem Rel.c2 {c : Nat} {σ : sn_V} {a : Nat → Int32} (R : Rel c σ a) : a 0 = nI c := R.1.2
theorem Rel.slot {c : Nat} {σ : sn_V} {a : Nat → Int32} (R : Rel c σ a) {i : Nat} (hi : i < 8) : SlotR σ a i := R.2.2.2.2.2.2.2.1 i hi
theorem Rel.kept {c : Nat} {σ : sn_V} {a : Nat → Int32} (R : Rel c σ a) {n : Nat} (h1 : 1 ≤ n) (h2 : n ≤ c) (h3 : c < n + 16) : RowR σ a (8 + (n - 1) % 16) (356 + 15 * (n % 16)) := R.2.2.2.2.2.2.2.2 n h1 h2 h3
theorem Rel.open1 {c : Nat} {σ : sn_V} {a : Nat → Int32} (R : Rel c σ a) {i : Nat} (hi : i < 8) : a (36 + 40 * i + 39) = nI 1 ↔ bitP (σ 0 3) i := by
  rw [(R.slot hi).1]
  by_cases q : bitP (σ 0 3) i
  · rw [decide_eq_true q]; exact ⟨fun _ => q, fun _ => rfl⟩
  · rw [decide_eq_false q]
    exact ⟨fun z => absurd z.symm bi_t, fun z => absurd z q⟩
/-- relations of the class's graph -/
def gR (σ : sn_V) (N : Nat) (nr nn : Nat → Nat) (a b : Nat) : Bool := ((decide (a < N) && decide (b < N)) && decide (¬ a = b)) && decide (¬ ed σ nr nn a b = 0)
def gO (σ : sn_V) (N : Nat) (nr nn : Nat → Nat) (a b : Nat) : Bool := ((decide (a < N) && decide (b < N)) && decide (¬ a = b)) && dB3 σ (nr a) (nr b) (nI (nn b)) 12
theorem gR_iff {σ : sn_V} {N : Nat} {nr nn : Nat → Nat} {a b : Nat} : gR σ N nr nn a b = true ↔ dnA N a b ∧ ¬ ed σ nr nn a b = 0 := by
  unfold gR dnA
  rw [Bool.and_eq_true, Bool.and_eq_true, Bool.and_eq_true, decide_eq_true_iff, decide_eq_true_iff, decide_eq_true_iff, decide_eq_true_iff, and_assoc (a := a < N)]
theorem gO_iff {σ : sn_V} {N : Nat} {nr nn : Nat → Nat} {a b : Nat} : gO σ N nr nn a b = true ↔ dnA N a b ∧ o4 σ nr nn a b := by
  unfold gO dnA o4
  rw [Bool.and_eq_true, Bool.and_eq_true, Bool.and_eq_true, decide_eq_true_iff, decide_eq_true_iff, decide_eq_true_iff, and_assoc (a := a < N)]
theorem dV_7 (x y z : Bool) : dV x y z &&& nI 7 = dV x y z := by cases x <;> cases y <;> cases z <;> decide
theorem anyN_cg {p q : Nat → Bool} {n : Nat} (h : ∀ k, k < n → p k = q k) : anyN p n = anyN q n := by
  rw [Bool.eq_iff_iff, anyN_t, anyN_t]
  constructor
  · rintro ⟨k, a, b⟩; exact ⟨k, a, by rw [← h k a]; exact b⟩
  · rintro ⟨k, a, b⟩; exact ⟨k, a, by rw [h k a]; exact b⟩
theorem dB2_eq {σ μ : sn_V} {ra pa rb pb na : Nat} (A : RowR σ (μ 1) ra pa) (B : RowR σ (μ 1) rb pb) : dB2 σ ra (nI na) rb 12 = mB2 μ pa na pb 12 := by
  obtain ⟨_, _, a2, _⟩ := A
  obtain ⟨_, b1, _, b3⟩ := B
  unfold dB2 mB2
  refine anyN_cg fun k hk => ?_
  rw [a2, b1, b3 k hk, Bool.and_comm (decide (bitP (σ 8 ra) k))]
theorem dB3_eq {σ μ : sn_V} {ra pa rb pb nb : Nat} (A : RowR σ (μ 1) ra pa) (B : RowR σ (μ 1) rb pb) : dB3 σ ra rb (nI nb) 12 = mB3 μ pa pb nb 12 := by
  obtain ⟨_, a1, _, a3⟩ := A
  obtain ⟨_, _, b2, _⟩ := B
  unfold dB3 mB3
  refine anyN_cg fun k hk => ?_
  rw [a1, b2, a3 k hk]
theorem dS_eq {σ μ : sn_V} {ra pa rb pb na nb : Nat} (A : RowR σ (μ 1) ra pa) (B : RowR σ (μ 1) rb pb) (ha : na < 2 ^ 31) (hb : nb < 2 ^ 31) :
    dS σ ra (nI na) rb (nI nb) = dV (decide (¬ (μ 1 (pa + 2) &&& μ 1 (pb + 2)) = 0) && decide (na < nb)) (mB2 μ pa na pb 12) (mB3 μ pa pb nb 12) := by
  unfold dS
  rw [dB2_eq A B, dB3_eq A B]
  have e : dB1 σ ra (nI na) rb (nI nb) = (decide (¬ (μ 1 (pa + 2) &&& μ 1 (pb + 2)) = 0) && decide (na < nb)) := by
    unfold dB1
    rw [A.2.2.1, B.2.2.1, Bool.and_comm]
    congr 1
    rw [decide_eq_decide, nI_leI hb ha]
    omega
  rw [e]
/-- a kept node's row -/
theorem Rel.node {c j : Nat} {σ : sn_V} {a : Nat → Int32} (R : Rel c σ a) (hj : j < min 16 c) (w : Nat) : RowR σ a (nrC c (min 16 c) j) (mpN c w j) ∧ nnC c (min 16 c) j = mnN c j := by
  have hn : min 16 c ≤ 16 := Nat.min_le_left _ _
  have hn2 : min 16 c ≤ c := Nat.min_le_right _ _
  have e : mnN c j = c - min 16 c + 1 + j := by unfold mnN; rw [if_neg (by omega)]
  refine ⟨?_, by rw [e]; rfl⟩
  have k := R.kept (n := mnN c j) (by omega) (by omega) (by omega)
  unfold mpN nrC
  rw [if_neg (by omega)]
  have e2 : mnN c j - 1 = c - min 16 c + j := by omega
  rw [e2] at k
  exact k
theorem ed_kept {c i j w : Nat} {σ μ : sn_V} (R : Rel c σ (μ 1)) (hc : c < 2 ^ 30) (hi : i < min 16 c) (hj : j < min 16 c) : ed σ (nrC c (min 16 c)) (nnC c (min 16 c)) i j = mS μ c w i j ∧ dB3 σ (nrC c (min 16 c) i) (nrC c (min 16 c) j) (nI (nnC c (min 16 c) j)) 12 = mB3 μ (mpN c w i) (mpN c w j) (mnN c j) 12 := by
  obtain ⟨a1, a2⟩ := R.node hi w
  obtain ⟨b1, b2⟩ := R.node hj w
  have hn : min 16 c ≤ 16 := Nat.min_le_left _ _
  unfold ed mS
  rw [a2, b2]
  exact ⟨dS_eq a1 b1 (mnN_lt hc (by omega)) (mnN_lt hc (by omega)), dB3_eq a1 b1⟩
/-- nodes with the own one -/
theorem Rel.nodeJ {c i j : Nat} {σ : sn_V} {a : Nat → Int32} (R : Rel c σ a) (hi : i < 8) (ho : bitP (σ 0 3) i) (hj : j ≤ min 16 c) :
    RowR σ a (nrJ (min 16 c) i (nrC c (min 16 c)) j) (mpN c i (rho (min 16 c) j)) ∧ nrJ (min 16 c) (c + 1) (nnC c (min 16 c)) j = mnN c (rho (min 16 c) j) := by
  by_cases q : j = min 16 c
  · subst q
    unfold nrJ
    rw [if_pos rfl, if_pos rfl, rho_n]
    exact ⟨((R.slot hi).2 ho).1, rfl⟩
  · unfold nrJ
    rw [if_neg q, if_neg q, rho_lt (by omega)]
    exact R.node (by omega) i
theorem ed_own {c i x y : Nat} {σ μ : sn_V} (R : Rel c σ (μ 1)) (hc : c < 2 ^ 30) (hi : i < 8) (ho : bitP (σ 0 3) i) (hx : x ≤ min 16 c) (hy : y ≤ min 16 c) :
    ed σ (nrJ (min 16 c) i (nrC c (min 16 c))) (nrJ (min 16 c) (c + 1) (nnC c (min 16 c))) x y = mS μ c i (rho (min 16 c) x) (rho (min 16 c) y) ∧
    dB3 σ (nrJ (min 16 c) i (nrC c (min 16 c)) x) (nrJ (min 16 c) i (nrC c (min 16 c)) y) (nI (nrJ (min 16 c) (c + 1) (nnC c (min 16 c)) y)) 12 = mB3 μ (mpN c i (rho (min 16 c) x)) (mpN c i (rho (min 16 c) y)) (mnN c (rho (min 16 c) y)) 12 := by
  obtain ⟨a1, a2⟩ := R.nodeJ hi ho hx
  obtain ⟨b1, b2⟩ := R.nodeJ hi ho hy
  have hn : min 16 c ≤ 16 := Nat.min_le_left _ _
  have rx := rho_le hn hx
  have ry := rho_le hn hy
  unfold ed mS
  rw [a2, b2]
  exact ⟨dS_eq a1 b1 (mnN_lt hc (by omega)) (mnN_lt hc (by omega)), dB3_eq a1 b1⟩
theorem mS_4 {μ : sn_V} {c w a b : Nat} : (mS μ c w a b &&& nI 4 = 0) ↔ mB3 μ (mpN c w a) (mpN c w b) (mnN c b) 12 = false := by
  unfold mS
  exact dV_0 _ _ _
theorem mR_7 {μ : sn_V} {c w a b : Nat} {own : Bool} : mR μ c w own (nI 7) a b = (((decide (¬ a = b) && mNd c own a) && mNd c own b) && decide (¬ mS μ c w a b = 0)) := by
  unfold mR mS
  rw [dV_7]
theorem mR_4 {μ : sn_V} {c w a b : Nat} {own : Bool} : mR μ c w own (nI 4) a b = (((decide (¬ a = b) && mNd c own a) && mNd c own b) && mB3 μ (mpN c w a) (mpN c w b) (mnN c b) 12) := by
  unfold mR
  congr 1
  rw [Bool.eq_iff_iff, decide_eq_true_iff, mS_4, Bool.not_eq_false]
theorem mNd_f {c a : Nat} : mNd c false a = decide (a < min 16 c) := by
  have hn : min 16 c ≤ 16 := Nat.min_le_left _ _
  unfold mNd
  split
  · exact (decide_eq_false (by omega)).symm
  · rfl
theorem gR_kept {c : Nat} {σ μ : sn_V} (R : Rel c σ (μ 1)) (hc : c < 2 ^ 30) : mR μ c 0 false (nI 7) = gR σ (min 16 c) (nrC c (min 16 c)) (nnC c (min 16 c)) := by
  funext x y
  rw [mR_7]
  unfold gR
  rw [mNd_f, mNd_f]
  by_cases hx : x < min 16 c
  · by_cases hy : y < min 16 c
    · rw [(ed_kept (w := 0) R hc hx hy).1, decide_eq_true hx, decide_eq_true hy, Bool.and_true, Bool.and_true, Bool.true_and, Bool.true_and]
    · rw [decide_eq_false hy, Bool.and_false, Bool.and_false, Bool.false_and, Bool.false_and, Bool.false_and]
  · simp only [decide_eq_false hx, Bool.and_false, Bool.false_and]
theorem gO_kept {c : Nat} {σ μ : sn_V} (R : Rel c σ (μ 1)) (hc : c < 2 ^ 30) : mR μ c 0 false (nI 4) = gO σ (min 16 c) (nrC c (min 16 c)) (nnC c (min 16 c)) := by
  funext x y
  rw [mR_4]
  unfold gO
  rw [mNd_f, mNd_f]
  by_cases hx : x < min 16 c
  · by_cases hy : y < min 16 c
    · rw [(ed_kept (w := 0) R hc hx hy).2, decide_eq_true hx, decide_eq_true hy, Bool.and_true, Bool.and_true, Bool.true_and, Bool.true_and]
    · rw [decide_eq_false hy, Bool.and_false, Bool.and_false, Bool.false_and, Bool.false_and, Bool.false_and]
  · simp only [decide_eq_false hx, Bool.and_false, Bool.false_and]
theorem rho_inj {n x y : Nat} (hn : n ≤ 16) (hx : x ≤ n) (hy : y ≤ n) : (rho n x = rho n y) ↔ x = y := by unfold rho; split <;> split <;> omega
theorem mNd_rho {c x : Nat} (hx : x ≤ min 16 c) : mNd c true (rho (min 16 c) x) = true := by
  have hn : min 16 c ≤ 16 := Nat.min_le_left _ _
  unfold mNd
  split
  · rfl
  · rename_i q
    unfold rho at q ⊢
    split
    · rename_i w; rw [if_pos w] at q; exact absurd rfl q
    · exact decide_eq_true (by omega)
theorem mNd_of {c y : Nat} (h : mNd c true y = true) : ∃ j, j ≤ min 16 c ∧ y = rho (min 16 c) j := by
  unfold mNd at h
  split at h
  · rename_i q
    exact ⟨min 16 c, Nat.le_refl _, by rw [rho_n]; exact q⟩
  · have := of_decide_eq_true h
    exact ⟨y, by omega, by rw [rho_lt this]⟩
def gRo (σ : sn_V) (c i : Nat) : Nat → Nat → Bool := gR σ (min 16 c + 1) (nrJ (min 16 c) i (nrC c (min 16 c))) (nrJ (min 16 c) (c + 1) (nnC c (min 16 c)))
def gOo (σ : sn_V) (c i : Nat) : Nat → Nat → Bool := gO σ (min 16 c + 1) (nrJ (min 16 c) i (nrC c (min 16 c))) (nrJ (min 16 c) (c + 1) (nnC c (min 16 c)))
theorem gR_own {c i x y : Nat} {σ μ : sn_V} (R : Rel c σ (μ 1)) (hc : c < 2 ^ 30) (hi : i < 8) (ho : bitP (σ 0 3) i) (hx : x ≤ min 16 c) (hy : y ≤ min 16 c) : mR μ c i true (nI 7) (rho (min 16 c) x) (rho (min 16 c) y) = gRo σ c i x y := by
  have hn : min 16 c ≤ 16 := Nat.min_le_left _ _
  rw [mR_7]
  unfold gRo gR
  rw [mNd_rho hx, mNd_rho hy, (ed_own R hc hi ho hx hy).1, decide_eq_true (show x < min 16 c + 1 by omega), decide_eq_true (show y < min 16 c + 1 by omega), Bool.and_true, Bool.and_true, Bool.true_and, Bool.true_and]
  congr 1
  rw [decide_eq_decide, rho_inj hn hx hy]
theorem gO_own {c i x y : Nat} {σ μ : sn_V} (R : Rel c σ (μ 1)) (hc : c < 2 ^ 30) (hi : i < 8) (ho : bitP (σ 0 3) i) (hx : x ≤ min 16 c) (hy : y ≤ min 16 c) : mR μ c i true (nI 4) (rho (min 16 c) x) (rho (min 16 c) y) = gOo σ c i x y := by
  have hn : min 16 c ≤ 16 := Nat.min_le_left _ _
  rw [mR_4]
  unfold gOo gO
  rw [mNd_rho hx, mNd_rho hy, (ed_own R hc hi ho hx hy).2, decide_eq_true (show x < min 16 c + 1 by omega), decide_eq_true (show y < min 16 c + 1 by omega), Bool.and_true, Bool.and_true, Bool.true_and, Bool.true_and]
  congr 1
  rw [decide_eq_decide, rho_inj hn hx hy]
theorem mR_in {μ : sn_V} {c w x y : Nat} {pt : Int32} (h : mR μ c w true pt x y = true) : (∃ j, j ≤ min 16 c ∧ x = rho (min 16 c) j) ∧ ∃ j, j ≤ min 16 c ∧ y = rho (min 16 c) j := by
  unfold mR at h
  rw [Bool.and_eq_true, Bool.and_eq_true, Bool.and_eq_true] at h
  exact ⟨mNd_of h.1.1.2, mNd_of h.1.2⟩
theorem gR_irr {σ : sn_V} {N : Nat} {nr nn : Nat → Nat} {a : Nat} : gR σ N nr nn a a = false := by
  unfold gR
  rw [decide_eq_false (p := ¬ a = a) (fun q => q rfl), Bool.and_false, Bool.false_and]
theorem gO_irr {σ : sn_V} {N : Nat} {nr nn : Nat → Nat} {a : Nat} : gO σ N nr nn a a = false := by
  unfold gO
  rw [decide_eq_false (p := ¬ a = a) (fun q => q rfl), Bool.and_false, Bool.false_and]
