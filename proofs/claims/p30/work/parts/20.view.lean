/-! ===== bits: the kit's family of Int32 by its bits (kit/laws/BITS.to-paste, pasted), and what hasBit asks ===== -/
def bt (x : Int32) (i : Nat) : Bool := x.toBitVec.getLsbD i
theorem b_ext {x y : Int32} (h : ∀ i, i < 32 → bt x i = bt y i) : x = y := Int32.toBitVec_inj.mp (BitVec.eq_of_getLsbD_eq (fun i hi => h i hi))
theorem b_or (x y : Int32) (i : Nat) : bt (x ||| y) i = (bt x i || bt y i) := by unfold bt; rw [Int32.toBitVec_or, BitVec.getLsbD_or]
theorem b_and (x y : Int32) (i : Nat) : bt (x &&& y) i = (bt x i && bt y i) := by unfold bt; rw [Int32.toBitVec_and, BitVec.getLsbD_and]
theorem b_xor (x y : Int32) (i : Nat) : bt (x ^^^ y) i = (bt x i ^^ bt y i) := by unfold bt; rw [Int32.toBitVec_xor, BitVec.getLsbD_xor]
theorem b_big {x : Int32} {i : Nat} (h : 32 ≤ i) : bt x i = false := BitVec.getLsbD_of_ge _ _ h
theorem b_255 (i : Nat) : bt 255 i = decide (i < 8) := by
  rcases Nat.lt_or_ge i 32 with h | h
  · exact (by decide +kernel : ∀ i, i < 32 → bt 255 i = decide (i < 8)) i h
  · rw [b_big h, decide_eq_false (by omega)]
theorem b_65535 (i : Nat) : bt 65535 i = decide (i < 16) := by
  rcases Nat.lt_or_ge i 32 with h | h
  · exact (by decide +kernel : ∀ i, i < 32 → bt 65535 i = decide (i < 16)) i h
  · rw [b_big h, decide_eq_false (by omega)]
theorem b_m1 : ∀ i, i < 32 → bt (-1) i = true := by decide +kernel
theorem b_0 (i : Nat) : bt 0 i = false := BitVec.getLsbD_zero
theorem s_l : ∀ n, n < 32 → ((nI n &&& 31).toBitVec.smod 32).toNat = n := by decide +kernel
theorem s_u : ∀ n, n < 32 → (((nI n).toUInt32 &&& Int32.toUInt32 31).toBitVec % 32).toNat = n := by decide +kernel
theorem b_shl (n : Nat) (hn : n < 32) (x : Int32) {i : Nat} (hi : i < 32) : bt (x <<< (nI n &&& 31)) i = (decide (n ≤ i) && bt x (i - n)) := by
  unfold bt
  rw [Int32.toBitVec_shiftLeft]
  show (x.toBitVec <<< ((nI n &&& 31).toBitVec.smod 32).toNat).getLsbD i = _
  rw [s_l n hn, BitVec.getLsbD_shiftLeft]
  rcases Nat.lt_or_ge i n with h | h
  · simp [h, Nat.not_le.mpr h]
  · simp [hi, h, Nat.not_lt.mpr h]
theorem b_ushr (n : Nat) (hn : n < 32) (x : Int32) (i : Nat) : bt ((x.toUInt32 >>> ((nI n).toUInt32 &&& Int32.toUInt32 31)).toInt32) i = bt x (n + i) := by
  show (x.toUInt32 >>> ((nI n).toUInt32 &&& Int32.toUInt32 31)).toBitVec.getLsbD i = x.toUInt32.toBitVec.getLsbD (n + i)
  rw [UInt32.toBitVec_shiftRight]
  show (x.toUInt32.toBitVec >>> (((nI n).toUInt32 &&& Int32.toUInt32 31).toBitVec % 32).toNat).getLsbD i = _
  rw [s_u n hn, BitVec.getLsbD_ushiftRight]
theorem b_sshr (n : Nat) (hn : n < 32) (x : Int32) {i : Nat} (hi : i < 32) : bt (x >>> (nI n &&& 31)) i = if n + i < 32 then bt x (n + i) else bt x 31 := by
  unfold bt
  rw [Int32.toBitVec_shiftRight]
  show (x.toBitVec.sshiftRight ((nI n &&& 31).toBitVec.smod 32).toNat).getLsbD i = _
  rw [s_l n hn, BitVec.getLsbD_sshiftRight, BitVec.msb_eq_getLsbD_last]
  simp [hi]
abbrev bitP (x : Int32) (k : Nat) : Prop := ((x >>> (nI k &&& 31)) &&& nI 1) = nI 1
theorem bt_1 : ∀ i, i < 32 → bt (nI 1) i = decide (i = 0) := by decide +kernel
theorem bt_m1 : ∀ i, i < 32 → bt (-(nI 1)) i = true := by decide +kernel
theorem bt_s1 (k : Nat) (hk : k < 32) {i : Nat} (hi : i < 32) : bt (nI 1 <<< (nI k &&& 31)) i = decide (i = k) := by
  rw [b_shl k hk _ hi]
  by_cases h : k ≤ i
  · rw [bt_1 (i - k) (by omega)]
    simp only [h, decide_true, Bool.true_and, decide_eq_decide]
    omega
  · simp only [h, decide_false, Bool.false_and]
    exact (decide_eq_false (by omega)).symm
theorem bitP_bt {x : Int32} {k : Nat} (hk : k < 32) : bitP x k ↔ bt x k = true := by
  have e0 : bt (x >>> (nI k &&& 31)) 0 = bt x k := by rw [b_sshr k hk x (by omega), if_pos (by omega)]; rfl
  constructor
  · intro h
    have h1 := congrArg (fun z => bt z 0) h
    simp only [b_and, bt_1 0 (by omega)] at h1
    rw [e0] at h1
    simpa using h1
  · intro h
    refine b_ext fun i hi => ?_
    rw [b_and, bt_1 i hi]
    by_cases hi0 : i = 0
    · subst hi0; rw [e0, h]; rfl
    · simp [hi0]
theorem bitP_and {x y : Int32} {k : Nat} (hk : k < 32) : bitP (x &&& y) k ↔ bitP x k ∧ bitP y k := by
  rw [bitP_bt hk, bitP_bt hk, bitP_bt hk, b_and, Bool.and_eq_true]
theorem bitP_or {x y : Int32} {k : Nat} (hk : k < 32) : bitP (x ||| y) k ↔ bitP x k ∨ bitP y k := by
  rw [bitP_bt hk, bitP_bt hk, bitP_bt hk, b_or, Bool.or_eq_true]
theorem bitP_0 {k : Nat} (hk : k < 32) : ¬ bitP 0 k := by rw [bitP_bt hk, b_0]; decide
theorem bitP_s1 {k j : Nat} (hk : k < 32) (hj : j < 32) : bitP (nI 1 <<< (nI k &&& 31)) j ↔ j = k := by
  rw [bitP_bt hj, bt_s1 k hk hj, decide_eq_true_eq]
theorem bitP_put {x : Int32} {k j : Nat} (hk : k < 32) (hj : j < 32) : bitP (x ||| (nI 1 <<< (nI k &&& 31))) j ↔ bitP x j ∨ j = k := by
  rw [bitP_or hj, bitP_s1 hk hj]
theorem bitP_clr {x : Int32} {k j : Nat} (hk : k < 32) (hj : j < 32) : bitP (x &&& ((nI 1 <<< (nI k &&& 31)) ^^^ -(nI 1))) j ↔ bitP x j ∧ j ≠ k := by
  rw [bitP_and hj, bitP_bt (x := _ ^^^ _) hj, b_xor, bt_s1 k hk hj, bt_m1 j hj]
  by_cases h : j = k <;> simp [h]
theorem and_bit {x : Int32} {k : Nat} (hk : k < 32) : (x &&& (nI 1 <<< (nI k &&& 31))) = 0 ↔ ¬ bitP x k := by
  rw [bitP_bt hk]
  constructor
  · intro h hb
    have h1 := congrArg (fun z => bt z k) h
    simp only [b_and, bt_s1 k hk hk, hb, b_0] at h1
    simp at h1
  · intro h
    refine b_ext fun i hi => ?_
    rw [b_and, bt_s1 k hk hi, b_0]
    by_cases hik : i = k
    · subst hik
      cases hb : bt x i with
      | true => exact absurd hb h
      | false => rfl
    · simp [hik]
theorem or_0 {x y : Int32} (h : (x ||| y) = 0) : x = 0 ∧ y = 0 := by
  constructor <;> refine b_ext fun i hi => ?_ <;> have h1 := congrArg (fun z => bt z i) h <;> simp only [b_or, b_0, Bool.or_eq_false_iff] at h1
  · rw [h1.1, b_0]
  · rw [h1.2, b_0]
/-- somewhere below n -/
def anyN (p : Nat → Bool) : Nat → Bool
  | 0 => false
  | n + 1 => anyN p n || p n
theorem anyN_t {p : Nat → Bool} : ∀ {n : Nat}, anyN p n = true ↔ ∃ k, k < n ∧ p k = true
  | 0 => by simp [anyN]
  | n + 1 => by
    unfold anyN
    rw [Bool.or_eq_true, anyN_t]
    constructor
    · rintro (⟨k, h1, h2⟩ | h)
      · exact ⟨k, by omega, h2⟩
      · exact ⟨n, by omega, h⟩
    · rintro ⟨k, h1, h2⟩
      by_cases hk : k = n
      · exact Or.inr (hk ▸ h2)
      · exact Or.inl ⟨k, by omega, h2⟩
theorem anyN_f {p : Nat → Bool} {n : Nat} (h : ∀ k, k < n → p k = false) : anyN p n = false := by
  cases ha : anyN p n with
  | false => rfl
  | true =>
    obtain ⟨k, h1, h2⟩ := anyN_t.mp ha
    rw [h k h1] at h2
    cases h2
/-! ===== a State object's view: eleven cells at a place ===== -/
def stLen (j : Nat) : Nat := (sn_nth [4, 3, 3, 12, 12, 24, 24, 24, 288, 96] j).getD 0
abbrev sn_V : Type := Nat → Nat → Int32
def up (σ : sn_V) (j k : Nat) (v : Int32) : sn_V := fun j' k' => if j' = j ∧ k' = k then v else σ j' k'
def cpV (σ : sn_V) (a s d t n : Nat) : sn_V := fun j' k' => if j' = d ∧ t ≤ k' ∧ k' < t + n then σ a (s + (k' - t)) else σ j' k'
def hput (h : sn_H) (b : Nat) (σ : sn_V) : sn_H := (h.1, h.2.1, h.2.2.1, fun p k => if b ≤ p ∧ p ≤ b + 10 then σ (p - b) k else h.2.2.2 p k)
def StS (h : sn_H) (b : Nat) : Prop := hK h b = (0, 1, 14) ∧ ∀ j, j < 10 → hR h b (4 + j) = some (b + (1 + j)) ∧ hK h (b + (1 + j)) = (1, 0, stLen j)
/-- the State at b holds σ -/
def StA (h : sn_H) (b : Nat) (σ : sn_V) : Prop := StS h b ∧ ∀ j, j ≤ 10 → ∀ k, hG h (b + j) k = σ j k
theorem hput_S {h : sn_H} {b b' : Nat} {σ : sn_V} (S : StS h b') : StS (hput h b σ) b' := S
theorem hput_A {h : sn_H} {b : Nat} {σ : sn_V} (S : StS h b) : StA (hput h b σ) b σ := ⟨S, fun j hj k => by
  show (if b ≤ b + j ∧ b + j ≤ b + 10 then σ (b + j - b) k else _) = _
  rw [if_pos (by omega), Nat.add_sub_cancel_left]⟩
theorem hput_o {h : sn_H} {b p k : Nat} {σ : sn_V} (hp : ¬ (b ≤ p ∧ p ≤ b + 10)) : hG (hput h b σ) p k = hG h p k := if_neg hp
theorem hput_A' {h : sn_H} {b b' : Nat} {σ τ : sn_V} (A : StA h b' τ) (hb : b' + 10 < b ∨ b + 10 < b') : StA (hput h b σ) b' τ := ⟨A.1, fun j hj k => by rw [hput_o (by omega)]; exact A.2 j hj k⟩
theorem hput_hput {h : sn_H} {b : Nat} {σ τ : sn_V} : hput (hput h b σ) b τ = hput h b τ := by
  unfold hput
  simp only [Prod.mk.injEq, true_and]
  funext p k
  by_cases hp : b ≤ p ∧ p ≤ b + 10 <;> simp [hp]
theorem StA.put {h : sn_H} {b : Nat} {σ : sn_V} (A : StA h b σ) : h = hput h b σ := by
  obtain ⟨n, kd, rf, g⟩ := h
  unfold hput
  simp only [Prod.mk.injEq, true_and]
  funext p k
  by_cases hp : b ≤ p ∧ p ≤ b + 10
  · rw [if_pos hp]
    have := A.2 (p - b) (by omega) k
    rw [show b + (p - b) = p by omega] at this
    exact this
  · rw [if_neg hp]
theorem StA.ex {h : sn_H} {b : Nat} {σ : sn_V} (A : StA h b σ) : ∃ h0, h = hput h0 b σ := ⟨h, A.put⟩
theorem hput_get {h : sn_H} {b j k : Nat} {σ : sn_V} (hj : j ≤ 10) : hG (hput h b σ) (b + j) k = σ j k := by
  show (if b ≤ b + j ∧ b + j ≤ b + 10 then σ (b + j - b) k else _) = _
  rw [if_pos (by omega), Nat.add_sub_cancel_left]
theorem hput_get0 {h : sn_H} {b k : Nat} {σ : sn_V} : hG (hput h b σ) b k = σ 0 k := hput_get (j := 0) (by omega)
theorem hput_set {h : sn_H} {b j k : Nat} {σ : sn_V} {v : Int32} (hj : j ≤ 10) : setG (hput h b σ) (b + j) k v = hput h b (up σ j k v) := by
  unfold hput setG up
  simp only [Prod.mk.injEq, true_and]
  funext p i
  by_cases hp : b ≤ p ∧ p ≤ b + 10
  · simp only [hp, and_self, if_true]
    by_cases hq : p = b + j
    · subst hq; simp
    · rw [if_neg (fun z => hq z.1), if_neg (fun z => hq (by omega))]
  · rw [if_neg (fun z => hp (by omega)), if_neg hp, if_neg hp]
theorem hput_set0 {h : sn_H} {b k : Nat} {σ : sn_V} {v : Int32} : setG (hput h b σ) b k v = hput h b (up σ 0 k v) := hput_set (j := 0) (by omega)
theorem hput_cp {h : sn_H} {b a d s t n : Nat} {σ : sn_V} (ha : a ≤ 10) (hd : d ≤ 10) : cpG (hput h b σ) (b + a) s (b + d) t n = hput h b (cpV σ a s d t n) := by
  unfold hput cpG cpV
  simp only [Prod.mk.injEq, true_and]
  funext p i
  by_cases hp : b ≤ p ∧ p ≤ b + 10
  · simp only [hp, and_self, if_true]
    by_cases hq : p = b + d
    · subst hq
      simp only [Nat.add_sub_cancel_left, true_and]
      rw [if_pos (by omega : b ≤ b + a ∧ b + a ≤ b + 10)]
    · rw [if_neg (fun z => hq z.1), if_neg (fun z => hq (by omega))]
  · rw [if_neg (fun z => hp (by omega)), if_neg hp, if_neg hp]
theorem nI_s (a : Nat) : nI a + nI 1 = nI (a + 1) := nI_add a 1
theorem cl {n : Nat} (h : n < 2 ^ 31) : (nI n).toNatClampNeg = n := nI_clamp h
theorem ixm (i k : Nat) : nI i * nI 12 + nI k = nI (i * 12 + k) := by rw [pk_mul, nI_add]
theorem inb {i n : Nat} (h : i < n) (hn : n < 2 ^ 31 := by omega) : vp_in (nI i) n := vp_in_nI h hn
theorem StS.f4 {h : sn_H} {b : Nat} (S : StS h b) : hR h b 4 = some (b + 1) := (S.2 0 (by decide)).1
theorem StS.k1 {h : sn_H} {b : Nat} (S : StS h b) : hK h (b + 1) = (1, 0, 4) := (S.2 0 (by decide)).2
theorem StS.f5 {h : sn_H} {b : Nat} (S : StS h b) : hR h b 5 = some (b + 2) := (S.2 1 (by decide)).1
theorem StS.k2 {h : sn_H} {b : Nat} (S : StS h b) : hK h (b + 2) = (1, 0, 3) := (S.2 1 (by decide)).2
theorem StS.f6 {h : sn_H} {b : Nat} (S : StS h b) : hR h b 6 = some (b + 3) := (S.2 2 (by decide)).1
theorem StS.k3 {h : sn_H} {b : Nat} (S : StS h b) : hK h (b + 3) = (1, 0, 3) := (S.2 2 (by decide)).2
theorem StS.f7 {h : sn_H} {b : Nat} (S : StS h b) : hR h b 7 = some (b + 4) := (S.2 3 (by decide)).1
theorem StS.k4 {h : sn_H} {b : Nat} (S : StS h b) : hK h (b + 4) = (1, 0, 12) := (S.2 3 (by decide)).2
theorem StS.f8 {h : sn_H} {b : Nat} (S : StS h b) : hR h b 8 = some (b + 5) := (S.2 4 (by decide)).1
theorem StS.k5 {h : sn_H} {b : Nat} (S : StS h b) : hK h (b + 5) = (1, 0, 12) := (S.2 4 (by decide)).2
theorem StS.f9 {h : sn_H} {b : Nat} (S : StS h b) : hR h b 9 = some (b + 6) := (S.2 5 (by decide)).1
theorem StS.k6 {h : sn_H} {b : Nat} (S : StS h b) : hK h (b + 6) = (1, 0, 24) := (S.2 5 (by decide)).2
theorem StS.f10 {h : sn_H} {b : Nat} (S : StS h b) : hR h b 10 = some (b + 7) := (S.2 6 (by decide)).1
theorem StS.k7 {h : sn_H} {b : Nat} (S : StS h b) : hK h (b + 7) = (1, 0, 24) := (S.2 6 (by decide)).2
theorem StS.f11 {h : sn_H} {b : Nat} (S : StS h b) : hR h b 11 = some (b + 8) := (S.2 7 (by decide)).1
theorem StS.k8 {h : sn_H} {b : Nat} (S : StS h b) : hK h (b + 8) = (1, 0, 24) := (S.2 7 (by decide)).2
theorem StS.f12 {h : sn_H} {b : Nat} (S : StS h b) : hR h b 12 = some (b + 9) := (S.2 8 (by decide)).1
theorem StS.k9 {h : sn_H} {b : Nat} (S : StS h b) : hK h (b + 9) = (1, 0, 288) := (S.2 8 (by decide)).2
theorem StS.f13 {h : sn_H} {b : Nat} (S : StS h b) : hR h b 13 = some (b + 10) := (S.2 9 (by decide)).1
theorem StS.k10 {h : sn_H} {b : Nat} (S : StS h b) : hK h (b + 10) = (1, 0, 96) := (S.2 9 (by decide)).2
abbrev bitI (x i : Int32) : Prop := ((x >>> (i &&& 31)) &&& nI 1) = nI 1
/-- start -/
def fStart (σ : sn_V) (i : Nat) : sn_V :=
  cpV (cpV (up (up (up (up σ 0 3 (σ 0 3 ||| (nI 1 <<< (nI i &&& 31)))) 6 i (σ 0 1)) 7 i (nI 0)) 8 i (nI 0)) 5 0 9 (i * 12) 12) 4 0 10 (i * 12) 12
theorem s_S_start {h : sn_H} {b i : Nat} {σ : sn_V} {Q : Option Value → sn_H → Prop} (A : StA h b σ) (hi : i < 8) (H : Q (some (.int (σ 0 1))) (hput h b (fStart σ i))) : wpE 15 0 [some (.ref b), some (.int (nI i))] [] h (0, 0) Q := by
  have ci : (nI i).toNatClampNeg = i := cl (by omega)
  have S := A.1
  refine r_S_start_0 S.1 S.f9 S.k6 (inb (by omega)) ?_
  refine r_S_start_22 S.1 S.f10 S.k7 S.f11 S.k8 S.f8 S.f12 S.k5 S.k9 S.f7 S.f13 S.k4 S.k10 (inb (by omega)) (inb (by omega)) (pk_mul i 12) (by omega) (by omega) (by omega) (pk_mul i 12) (by omega) (by omega) (by omega) ?_
  obtain ⟨h0, rfl⟩ := A.ex
  rw [hput_hput] at H
  simp only [ci, hput_set0, hput_set, hput_cp, hput_get0, hput_get, Nat.reduceLeDiff]
  exact H
/-- read -/
def fRead (σ : sn_V) (i k : Nat) : sn_V := up σ 7 i (σ 7 i ||| (nI 1 <<< (nI k &&& 31)))
theorem s_S_readKey {h : sn_H} {b i k : Nat} {σ : sn_V} {Q : Option Value → sn_H → Prop} (A : StA h b σ) (hi : i < 8) (hk : k < 12) (H1 : ¬ bitI (σ 8 i) (nI k) → Q (some (.int (σ 10 (i * 12 + k)))) (hput h b (fRead σ i k))) (H2 : bitI (σ 8 i) (nI k) → Q (some (.int (σ 10 (i * 12 + k)))) h) : wpE 20 0 [some (.ref b), some (.int (nI i)), some (.int (nI k))] [] h (0, 0) Q := by
  have ci : (nI i).toNatClampNeg = i := cl (by omega)
  have cik : (nI (i * 12 + k)).toNatClampNeg = i * 12 + k := cl (by omega)
  have S := A.1
  obtain ⟨h0, rfl⟩ := A.ex
  have e8 : hG (hput h0 b σ) (b + 8) i = σ 8 i := hput_get (by decide)
  refine r_S_readKey_0 S.1 S.f11 S.k8 S.f10 S.k7 S.f13 S.k10 (inb (by omega)) (fun _ => inb (by omega)) (fun _ => by rw [ixm]; exact inb (by omega)) ?_ (fun _ => by rw [ixm]; exact inb (by omega)) ?_
  · rw [ixm, ci, cik, e8]
    intro c
    have := H1 c
    rw [hput_hput] at this
    simp only [hput_set, hput_get, Nat.reduceLeDiff]
    exact this
  · rw [ixm, ci, cik, e8]
    intro c
    simp only [hput_get, Nat.reduceLeDiff]
    exact H2 c
/-- write -/
def fWrite (σ : sn_V) (i k : Nat) (v : Int32) : sn_V := up (up σ 8 i (σ 8 i ||| (nI 1 <<< (nI k &&& 31)))) 10 (i * 12 + k) v
/-- nothing lies behind the ends of the arrays -/
def stL0 (j : Nat) : Nat := match j with
  | 0 => 4
  | j + 1 => stLen j
def StZ (σ : sn_V) : Prop := ∀ j k, j ≤ 10 → stL0 j ≤ k → σ j k = 0
theorem StZ.upz {σ : sn_V} (h : StZ σ) {j k : Nat} {v : Int32} (hk : k < stL0 j) : StZ (up σ j k v) := by
  intro j' k' hj hk'
  unfold up
  rw [if_neg (fun z => by rw [z.1, z.2] at hk'; omega)]
  exact h j' k' hj hk'
theorem StZ.cpz {σ : sn_V} (h : StZ σ) {a s d t n : Nat} (hk : t + n ≤ stL0 d) : StZ (cpV σ a s d t n) := by
  intro j' k' hj hk'
  unfold cpV
  rw [if_neg (fun z => by rw [z.1] at hk'; omega)]
  exact h j' k' hj hk'
theorem nle_nI {a b : Nat} (h : ¬ nI a ≤ nI b) (ha : a < 2 ^ 31) (hb : b < 2 ^ 31) : b < a := by
  rcases Nat.lt_or_ge b a with q | q
  · exact q
  · exact absurd (nI_le q hb) h
/-- does the transaction of slot i overwrite newer versions? -/
def oNew (σ : sn_V) (i : Nat) : Prop := ∃ k, k < 12 ∧ bitP (σ 8 i) k ∧ σ 6 i < σ 5 k
theorem s_S_overwritesNewer {h : sn_H} {b i : Nat} {σ : sn_V} {Q : Option Value → sn_H → Prop} (A : StA h b σ) (hi : i < 8) (H1 : oNew σ i → Q (some (.int (nI 1))) h) (H2 : ¬ oNew σ i → Q (some (.int (nI 0))) h) : wpE 28 0 [some (.ref b), some (.int (nI i)), none] [] h (0, 0) Q := by
  have ci : (nI i).toNatClampNeg = i := cl (by omega)
  have S := A.1
  have key : ∀ n k, k + n = 12 → (∀ j, j < k → ¬ (bitP (σ 8 i) j ∧ σ 6 i < σ 5 j)) → wpE 28 2 [some (.ref b), some (.int (nI i)), some (.int (nI k))] [] h (0, 0) Q := by
    intro n
    induction n with
    | zero =>
      intro k hk hno
      have hk : k = 12 := by omega
      subst hk
      refine r_S_overwritesNewer_2 S.1 S.f11 S.k8 S.f8 S.k5 S.f9 S.k6 (fun _ => H2 ?_) (fun c => absurd (nI_le (Nat.le_refl 12) (by decide)) c) (fun c => absurd (nI_le (Nat.le_refl 12) (by decide)) c) (fun c => absurd (nI_le (Nat.le_refl 12) (by decide)) c) (fun c => absurd (nI_le (Nat.le_refl 12) (by decide)) c) (fun c => absurd (nI_le (Nat.le_refl 12) (by decide)) c) (fun c => absurd (nI_le (Nat.le_refl 12) (by decide)) c)
      rintro ⟨j, h1, h2⟩
      exact hno j h1 h2
    | succ n ih =>
      intro k hk hno
      have ck : (nI k).toNatClampNeg = k := cl (by omega)
      have hc : ¬ nI 12 ≤ nI k := nI_ge (by omega) (by decide)
      refine r_S_overwritesNewer_2 S.1 S.f11 S.k8 S.f8 S.k5 S.f9 S.k6 (fun c => absurd c hc) (fun _ => inb (by omega)) (fun _ c => ?_) (fun _ _ => inb (by omega)) (fun _ _ => inb (by omega)) (fun _ c c2 => ?_) (fun _ c c2 => ?_)
      · rw [nI_s]
        refine ih (k + 1) (by omega) (lt_s hno (fun z => c ?_))
        rw [ci, A.2 8 (by decide)]; exact z.1
      · rw [nI_s]
        refine ih (k + 1) (by omega) (lt_s hno (fun z => ?_))
        rw [ck, ci, A.2 5 (by decide), A.2 6 (by decide)] at c2
        exact Int32.not_lt.mpr c2 z.2
      · refine H1 ⟨k, by omega, ?_, ?_⟩
        · rw [ci, A.2 8 (by decide)] at c; exact c
        · rw [ck, ci, A.2 5 (by decide), A.2 6 (by decide)] at c2
          exact Int32.not_le.mp c2
  exact r_S_overwritesNewer_0 (key 12 0 rfl lt_0)
/-- a commit's loop over the keys -/
def fKC (σ : sn_V) (i n : Nat) : sn_V := fun j k => if j = 4 ∧ k < n ∧ bitP (σ 8 i) k then σ 10 (i * 12 + k) else if j = 5 ∧ k < n ∧ bitP (σ 8 i) k then σ 0 1 else σ j k
theorem fKC_0 {σ : sn_V} {i : Nat} : fKC σ i 0 = σ := by
  funext j k
  simp [fKC]
theorem fKC_t {σ : sn_V} {i n : Nat} (h : bitP (σ 8 i) n) : up (up (fKC σ i n) 4 n (σ 10 (i * 12 + n))) 5 n (σ 0 1) = fKC σ i (n + 1) := by
  funext j k
  simp only [up, fKC]
  by_cases hk : k = n
  · subst hk
    by_cases h4 : j = 4
    · subst h4; simp [h]
    · by_cases h5 : j = 5
      · subst h5; simp [h]
      · simp [h4, h5]
  · have : k < n + 1 ↔ k < n := by omega
    simp [hk, this]
theorem fKC_f {σ : sn_V} {i n : Nat} (h : ¬ bitP (σ 8 i) n) : fKC σ i n = fKC σ i (n + 1) := by
  funext j k
  simp only [fKC]
  by_cases hk : k = n
  · subst hk; simp [h]
  · have : k < n + 1 ↔ k < n := by omega
    simp [this]

theorem s_S_keepLoop {h : sn_H} {b i : Nat} {σ : sn_V} {Q : Option Value → sn_H → Prop} (S : StS h b) (hi : i < 8) (H : Q (some (.int (σ 0 1))) (hput h b (fKC σ i 12))) : ∀ (n k : Nat), k + n = 12 → wpE 43 83 [some (.ref b), some (.int (nI i)), none, some (.int (nI k))] [] (hput h b (fKC σ i k)) (0, 0) Q := by
  have ci : (nI i).toNatClampNeg = i := cl (by omega)
  have e8 : ∀ k, hG (hput h b (fKC σ i k)) (b + 8) i = σ 8 i := fun k => by rw [hput_get (by decide)]; rfl
  have e01 : ∀ k, hG (hput h b (fKC σ i k)) b 1 = σ 0 1 := fun k => by rw [hput_get0]; rfl
  intro n
  induction n with
  | zero =>
    intro k hk
    have hk : k = 12 := by omega
    subst hk
    have c0 : nI 12 ≤ nI 12 := nI_le (Nat.le_refl 12) (by decide)
    exact r_S_keepCommit_83 S.1 S.f11 S.k8 S.f7 S.f13 S.k10 S.k4 S.f8 S.k5 (fun _ => by rw [e01]; exact H) (fun c => absurd c0 c) (fun c => absurd c0 c) (fun c => absurd c0 c) (fun c => absurd c0 c) (fun c => absurd c0 c) (fun c => absurd c0 c)
  | succ n ih =>
    intro k hk
    have ck : (nI k).toNatClampNeg = k := cl (by omega)
    have cik : (nI (i * 12 + k)).toNatClampNeg = i * 12 + k := cl (by omega)
    have hc : ¬ nI 12 ≤ nI k := nI_ge (by omega) (by decide)
    refine r_S_keepCommit_83 S.1 S.f11 S.k8 S.f7 S.f13 S.k10 S.k4 S.f8 S.k5 (fun c => absurd c hc) (fun _ => inb (by omega)) (fun _ c => ?_) (fun _ _ => by rw [ixm]; exact inb (by omega)) (fun _ _ => inb (by omega)) (fun _ _ => inb (by omega)) (fun _ c => ?_)
    · rw [ci, e8] at c
      refine r_S_keepCommit_129 ?_
      rw [nI_s, fKC_f c]
      exact ih (k + 1) (by omega)
    · rw [ci, e8] at c
      refine r_S_keepCommit_129 ?_
      rw [nI_s, ixm, ck, cik]
      simp only [hput_set, hput_get, hput_get0, Nat.reduceLeDiff]
      have h9 := ih (k + 1) (by omega)
      rw [← fKC_t c] at h9
      exact h9

/-- commit: the row of the commit c + 1, then the loop -/
def fKeep0 (σ : sn_V) (i : Nat) : sn_V := up (up σ 0 3 (σ 0 3 &&& ((nI 1 <<< (nI i &&& 31)) ^^^ -(nI 1)))) 0 1 (σ 0 1 + nI 1)
def fKeep1 (σ : sn_V) (i r : Nat) : sn_V := cpV (up (up (up (fKeep0 σ i) 6 r (σ 6 i)) 7 r (σ 7 i)) 8 r (σ 8 i)) 9 (i * 12) 9 (r * 12) 12
def fKeep (σ : sn_V) (i r : Nat) : sn_V := fKC (fKeep1 σ i r) i 12
theorem row_of {c : Nat} (hc : c < 2 ^ 30) : nI 8 + ((nI c + nI 1 - nI 1) &&& nI 15) = nI (8 + c % 16) := by
  rw [nI_add, pk_sub (by omega), Nat.add_sub_cancel, show (nI 15 : Int32) = nI (2 ^ 4 - 1) from rfl, pk_andN (by omega) 4 (by decide), nI_add]
theorem s_S_keepCommit {h : sn_H} {b i c : Nat} {σ : sn_V} {Q : Option Value → sn_H → Prop} (A : StA h b σ) (hi : i < 8) (hc : c < 2 ^ 30) (hσ : σ 0 1 = nI c) (H : Q (some (.int (nI (c + 1)))) (hput h b (fKeep σ i (8 + c % 16)))) : wpE 43 0 [some (.ref b), some (.int (nI i)), none, none] [] h (0, 0) Q := by
  have ci : (nI i).toNatClampNeg = i := cl (by omega)
  have S := A.1
  have hr : 8 + c % 16 < 24 := by omega
  have cr : (nI (8 + c % 16)).toNatClampNeg = 8 + c % 16 := cl (by omega)
  obtain ⟨h0, rfl⟩ := A.ex
  refine r_S_keepCommit_0 S.1 ?_
  simp only [hput_set0, hput_get0]
  have e1 : up (up σ 0 3 (σ 0 3 &&& ((nI 1 <<< (nI i &&& 31)) ^^^ -(nI 1)))) 0 1 (up σ 0 3 (σ 0 3 &&& ((nI 1 <<< (nI i &&& 31)) ^^^ -(nI 1))) 0 1 + nI 1) = fKeep0 σ i := rfl
  rw [e1]
  have hrow : nI 8 + ((fKeep0 σ i 0 1 - nI 1) &&& nI 15) = nI (8 + c % 16) := by
    show nI 8 + ((σ 0 1 + nI 1 - nI 1) &&& nI 15) = _
    rw [hσ]; exact row_of hc
  refine r_S_keepCommit_15 S.1 S.f9 S.k6 S.f10 S.k7 (inb (by omega)) ?_ (inb (by omega)) ?_ ?_
  · rw [hput_get0, hrow]; exact inb (by omega)
  · rw [hput_get0, hrow]; exact inb (by omega)
  rw [hput_get0, hrow, cr, ci]
  simp only [hput_set, hput_get, Nat.reduceLeDiff]
  refine r_S_keepCommit_48 S.1 S.f11 S.k8 S.f12 S.k9 (inb (by omega)) (inb (by omega)) (pk_mul i 12) (by omega) (pk_mul (8 + c % 16) 12) (by omega) (by omega) (by omega) ?_
  rw [cr, ci]
  simp only [hput_set, hput_get, hput_cp, Nat.reduceLeDiff]
  have hne : ¬ i = 8 + c % 16 := by omega
  have e2 : cpV (up (up (up (fKeep0 σ i) 6 (8 + c % 16) (fKeep0 σ i 6 i)) 7 (8 + c % 16) (up (fKeep0 σ i) 6 (8 + c % 16) (fKeep0 σ i 6 i) 7 i)) 8 (8 + c % 16) (up (up (fKeep0 σ i) 6 (8 + c % 16) (fKeep0 σ i 6 i)) 7 (8 + c % 16) (up (fKeep0 σ i) 6 (8 + c % 16) (fKeep0 σ i 6 i) 7 i) 8 i)) 9 (i * 12) 9 ((8 + c % 16) * 12) 12 = fKeep1 σ i (8 + c % 16) := by
    rfl
  rw [e2]
  have h9 := s_S_keepLoop (h := h0) (b := b) (i := i) (σ := fKeep1 σ i (8 + c % 16)) (Q := Q) S hi (by
    have e3 : fKeep1 σ i (8 + c % 16) 0 1 = nI (c + 1) := by
      show σ 0 1 + nI 1 = _
      rw [hσ, nI_s]
    rw [e3]
    rw [hput_hput] at H
    exact H) 12 0 rfl
  rw [fKC_0] at h9
  exact h9
/-- dependencies -/
def dB1 (σ : sn_V) (ra : Nat) (a : Int32) (rb : Nat) (b : Int32) : Bool := decide (¬ b ≤ a) && decide (¬ (σ 8 ra &&& σ 8 rb) = 0)
def dB2 (σ : sn_V) (ra : Nat) (a : Int32) (rb n : Nat) : Bool := anyN (fun k => (decide (bitP (σ 8 ra) k) && decide (bitP (σ 7 rb) k)) && decide (σ 9 (rb * 12 + k) = a)) n
def dB3 (σ : sn_V) (ra rb : Nat) (b : Int32) (n : Nat) : Bool := anyN (fun k => (decide (bitP (σ 7 ra) k) && decide (bitP (σ 8 rb) k)) && decide (¬ b ≤ σ 9 (ra * 12 + k))) n
def dV (x y z : Bool) : Int32 := ((if x then nI 1 else nI 0) ||| (if y then nI 2 else nI 0)) ||| (if z then nI 4 else nI 0)
def dS (σ : sn_V) (ra : Nat) (a : Int32) (rb : Nat) (b : Int32) : Int32 := dV (dB1 σ ra a rb b) (dB2 σ ra a rb 12) (dB3 σ ra rb b 12)
theorem dV_2 (x z : Bool) (y : Bool) : dV x y z ||| nI 2 = dV x true z := by cases x <;> cases y <;> cases z <;> decide
theorem dV_4 (x y : Bool) (z : Bool) : dV x y z ||| nI 4 = dV x y true := by cases x <;> cases y <;> cases z <;> decide
theorem s_S_depLoop {h : sn_H} {b ra rb : Nat} {a bb : Int32} {σ : sn_V} {Q : Option Value → sn_H → Prop} (A : StA h b σ) (hra : ra < 24) (hrb : rb < 24) (x : Bool) (H : Q (some (.int (dV x (dB2 σ ra a rb 12) (dB3 σ ra rb bb 12)))) h) :
    ∀ (n k : Nat), k + n = 12 → wpE 34 73 [some (.ref b), some (.int (nI ra)), some (.int a), some (.int (nI rb)), some (.int bb), some (.int (dV x (dB2 σ ra a rb k) (dB3 σ ra rb bb k))), some (.int (σ 8 ra &&& σ 7 rb)), some (.int (σ 7 ra &&& σ 8 rb)), some (.int (nI k)), none] [] h (0, 0) Q := by
  have S := A.1
  intro n
  induction n with
  | zero =>
    intro k hk
    have hk : k = 12 := by omega
    subst hk
    have c0 : nI 12 ≤ nI 12 := nI_le (Nat.le_refl 12) (by decide)
    exact r_S_dependencySum_73 S.1 S.f12 S.k9 (fun _ => H) (fun c => absurd c0 c) (fun c => absurd c0 c) (fun c => absurd c0 c) (fun c => absurd c0 c) (fun c => absurd c0 c) (fun c => absurd c0 c) (fun c => absurd c0 c) (fun c => absurd c0 c) (fun c => absurd c0 c) (fun c => absurd c0 c) (fun c => absurd c0 c) (fun c => absurd c0 c) (fun c => absurd c0 c)
  | succ n ih =>
    intro k hk
    have hc : ¬ nI 12 ≤ nI k := nI_ge (by omega) (by decide)
    have ca : (nI (ra * 12 + k)).toNatClampNeg = ra * 12 + k := cl (by omega)
    have cb : (nI (rb * 12 + k)).toNatClampNeg = rb * 12 + k := cl (by omega)
    have h9 := ih (k + 1) (by omega)
    have ba : vp_in (nI ra * nI 12 + nI k) 288 := by rw [ixm]; exact inb (by omega)
    have bb2 : vp_in (nI rb * nI 12 + nI k) 288 := by rw [ixm]; exact inb (by omega)
    have ga : hG h (b + 9) (nI ra * nI 12 + nI k).toNatClampNeg = σ 9 (ra * 12 + k) := by rw [ixm, ca, A.2 9 (by decide)]
    have gb : hG h (b + 9) (nI rb * nI 12 + nI k).toNatClampNeg = σ 9 (rb * 12 + k) := by rw [ixm, cb, A.2 9 (by decide)]
    have t2 : ∀ z, ((decide (bitP (σ 8 ra) k) && decide (bitP (σ 7 rb) k)) && decide (σ 9 (rb * 12 + k) = a)) = z → dB2 σ ra a rb (k + 1) = (dB2 σ ra a rb k || z) := fun z hz => by rw [← hz]; rfl
    have t3 : ∀ z, ((decide (bitP (σ 7 ra) k) && decide (bitP (σ 8 rb) k)) && decide (¬ bb ≤ σ 9 (ra * 12 + k))) = z → dB3 σ ra rb bb (k + 1) = (dB3 σ ra rb bb k || z) := fun z hz => by rw [← hz]; rfl
    have n2 : (σ 8 ra &&& σ 7 rb) &&& (nI 1 <<< (nI k &&& 31)) = 0 → dB2 σ ra a rb (k + 1) = dB2 σ ra a rb k := fun c => by
      rw [and_bit (by omega), bitP_and (by omega)] at c
      rw [t2 false (by simp only [← Bool.decide_and, c, decide_false, Bool.false_and]), Bool.or_false]
    have n2' : ¬ (σ 9 (rb * 12 + k) = a) → dB2 σ ra a rb (k + 1) = dB2 σ ra a rb k := fun c => by
      rw [t2 false (by simp only [c, decide_false, Bool.and_false]), Bool.or_false]
    have y2 : ¬ (σ 8 ra &&& σ 7 rb) &&& (nI 1 <<< (nI k &&& 31)) = 0 → σ 9 (rb * 12 + k) = a → dB2 σ ra a rb (k + 1) = true := fun c c2 => by
      rw [and_bit (by omega), bitP_and (by omega), Classical.not_not] at c
      rw [t2 true (by rw [decide_eq_true c.1, decide_eq_true c.2, decide_eq_true c2]; rfl), Bool.or_true]
    have n3 : (σ 7 ra &&& σ 8 rb) &&& (nI 1 <<< (nI k &&& 31)) = 0 → dB3 σ ra rb bb (k + 1) = dB3 σ ra rb bb k := fun c => by
      rw [and_bit (by omega), bitP_and (by omega)] at c
      rw [t3 false (by simp only [← Bool.decide_and, c, decide_false, Bool.false_and]), Bool.or_false]
    have n3' : bb ≤ σ 9 (ra * 12 + k) → dB3 σ ra rb bb (k + 1) = dB3 σ ra rb bb k := fun c => by
      rw [t3 false (by simp only [c, not_true, decide_false, Bool.and_false]), Bool.or_false]
    have y3 : ¬ (σ 7 ra &&& σ 8 rb) &&& (nI 1 <<< (nI k &&& 31)) = 0 → ¬ bb ≤ σ 9 (ra * 12 + k) → dB3 σ ra rb bb (k + 1) = true := fun c c2 => by
      rw [and_bit (by omega), bitP_and (by omega), Classical.not_not] at c
      rw [t3 true (by rw [decide_eq_true c.1, decide_eq_true c.2, decide_eq_true c2]; rfl), Bool.or_true]
    refine r_S_dependencySum_73 S.1 S.f12 S.k9 (fun c => absurd c hc) (fun _ c1 c2 => ?_) (fun _ _ _ => ba) (fun _ c1 c2 c3 => ?_) (fun _ c1 c2 c3 => ?_) (fun _ _ => bb2) (fun _ c1 c2 c3 => ?_) (fun _ _ _ _ => ba) (fun _ c1 c2 c3 c4 => ?_) (fun _ c1 c2 c3 c4 => ?_) (fun _ c1 c2 c3 => ?_) (fun _ _ _ _ => ba) (fun _ c1 c2 c3 c4 => ?_) (fun _ c1 c2 c3 c4 => ?_)
    · rw [nI_s]; rw [n2 c1, n3 c2] at h9; exact h9
    · rw [ga] at c3; rw [nI_s]; rw [n2 c1, n3' c3] at h9; exact h9
    · rw [ga] at c3; rw [nI_s, dV_4]; rw [n2 c1, y3 c2 c3] at h9; exact h9
    · rw [gb] at c2; rw [nI_s]; rw [n2' c2, n3 c3] at h9; exact h9
    · rw [gb] at c2; rw [ga] at c4; rw [nI_s]; rw [n2' c2, n3' c4] at h9; exact h9
    · rw [gb] at c2; rw [ga] at c4; rw [nI_s, dV_4]; rw [n2' c2, y3 c3 c4] at h9; exact h9
    · rw [gb] at c2; rw [nI_s, dV_2]; rw [y2 c1 c2, n3 c3] at h9; exact h9
    · rw [gb] at c2; rw [ga] at c4; rw [nI_s, dV_2]; rw [y2 c1 c2, n3' c4] at h9; exact h9
    · rw [gb] at c2; rw [ga] at c4; rw [nI_s, dV_2, dV_4]; rw [y2 c1 c2, y3 c3 c4] at h9; exact h9
theorem s_S_dependencySum {h : sn_H} {b ra rb : Nat} {a bb : Int32} {σ : sn_V} {Q : Option Value → sn_H → Prop} (A : StA h b σ) (hra : ra < 24) (hrb : rb < 24) (H : Q (some (.int (dS σ ra a rb bb))) h) : wpE 34 0 [some (.ref b), some (.int (nI ra)), some (.int a), some (.int (nI rb)), some (.int bb), none, none, none, none, none] [] h (0, 0) Q := by
  have S := A.1
  have ca : (nI ra).toNatClampNeg = ra := cl (by omega)
  have cb : (nI rb).toNatClampNeg = rb := cl (by omega)
  have g8a : hG h (b + 8) ra = σ 8 ra := A.2 8 (by decide) _
  have g8b : hG h (b + 8) rb = σ 8 rb := A.2 8 (by decide) _
  have g7a : hG h (b + 7) ra = σ 7 ra := A.2 7 (by decide) _
  have g7b : hG h (b + 7) rb = σ 7 rb := A.2 7 (by decide) _
  have z0 : ∀ x, dV x (dB2 σ ra a rb 0) (dB3 σ ra rb bb 0) = if x then nI 1 else nI 0 := fun x => by
    show dV x false false = _
    cases x <;> decide
  have none' : ((σ 8 ra &&& σ 7 rb) ||| (σ 7 ra &&& σ 8 rb)) = 0 → dB2 σ ra a rb 12 = false ∧ dB3 σ ra rb bb 12 = false := by
    intro c
    obtain ⟨c1, c2⟩ := or_0 c
    refine ⟨anyN_f fun k hk => ?_, anyN_f fun k hk => ?_⟩
    · have : ¬ (bitP (σ 8 ra) k ∧ bitP (σ 7 rb) k) := by rw [← bitP_and (by omega), c1]; exact bitP_0 (by omega)
      simp only [← Bool.decide_and, this, decide_false, Bool.false_and]
    · have : ¬ (bitP (σ 7 ra) k ∧ bitP (σ 8 rb) k) := by rw [← bitP_and (by omega), c2]; exact bitP_0 (by omega)
      simp only [← Bool.decide_and, this, decide_false, Bool.false_and]
  have loop := fun x (hx : dB1 σ ra a rb bb = x) => s_S_depLoop (Q := Q) A hra hrb x (a := a) (bb := bb) (by unfold dS at H; rw [hx] at H; exact H) 12 0 rfl
  have i8a : vp_in (nI ra) 24 := inb (by omega)
  have i8b : vp_in (nI rb) 24 := inb (by omega)
  have b1f : ∀ _ : bb ≤ a, dB1 σ ra a rb bb = false := fun c => by simp [dB1, c]
  have b1f' : ∀ _ : (σ 8 ra &&& σ 8 rb) = 0, dB1 σ ra a rb bb = false := fun c => by simp [dB1, c]
  have b1t : ¬ bb ≤ a → ¬ (σ 8 ra &&& σ 8 rb) = 0 → dB1 σ ra a rb bb = true := fun c c2 => by simp only [dB1, c, c2, not_false_eq_true, decide_true, Bool.and_self]
  refine r_S_dependencySum_0 S.1 S.f11 S.k8 S.f10 S.k7 (fun _ => i8a) (fun _ => i8b) (fun _ => i8a) (fun _ => i8b) (fun c c2 => ?_) (fun c c2 => ?_) (fun _ => i8a) (fun _ => i8b) (fun _ _ => i8b) (fun _ _ => i8a) (fun c c1 c2 => ?_) (fun c c1 c2 => ?_) (fun _ _ => i8b) (fun _ _ => i8a) (fun c c1 c2 => ?_) (fun c c1 c2 => ?_)
  · rw [ca, cb, g8a, g8b, g7a, g7b]
    have := loop false (b1f c)
    rw [z0] at this
    exact this
  · rw [ca, cb, g8a, g8b, g7a, g7b] at c2
    obtain ⟨e1, e2⟩ := none' c2
    unfold dS at H
    rw [b1f c, e1, e2] at H
    exact H
  · rw [ca, cb, g8a, g8b] at c1
    rw [ca, cb, g8a, g8b, g7a, g7b]
    have := loop false (b1f' c1)
    rw [z0] at this
    exact this
  · rw [ca, cb, g8a, g8b] at c1
    rw [ca, cb, g8a, g8b, g7a, g7b] at c2
    obtain ⟨e1, e2⟩ := none' c2
    unfold dS at H
    rw [b1f' c1, e1, e2] at H
    exact H
  · rw [ca, cb, g8a, g8b] at c1
    rw [ca, cb, g8a, g8b, g7a, g7b]
    have := loop true (b1t c c1)
    rw [z0] at this
    exact this
  · rw [ca, cb, g8a, g8b] at c1
    rw [ca, cb, g8a, g8b, g7a, g7b] at c2
    obtain ⟨e1, e2⟩ := none' c2
    unfold dS at H
    rw [b1t c c1, e1, e2] at H
    exact H
/-- sums of keys -/
def sumK (m : Int32) (f : Nat → Int32) : Nat → Int32
  | 0 => nI 0
  | n + 1 => if bitP m n then sumK m f n + f n else sumK m f n
theorem s_S_constraintIsMet {h : sn_H} {b p fr n0 c : Nat} {σ : sn_V} {Q : Option Value → sn_H → Prop} (A : StA h b σ) (hp : hK h p = (1, 0, n0)) (hf : fr + 12 ≤ n0) (hn : n0 < 65536) (hc : c < 3) (H1 : sumK (σ 2 c) (fun k => hG h p (fr + k)) 12 < σ 3 c → Q (some (.int (nI 0))) h) (H2 : ¬ sumK (σ 2 c) (fun k => hG h p (fr + k)) 12 < σ 3 c → Q (some (.int (nI 1))) h) :
    wpE 47 0 [some (.ref b), some (.ref p), some (.int (nI fr)), some (.int (nI c)), none, none] [] h (0, 0) Q := by
  have S := A.1
  have cc : (nI c).toNatClampNeg = c := cl (by omega)
  have g2 : hG h (b + 2) c = σ 2 c := A.2 2 (by decide) _
  have g3 : hG h (b + 3) c = σ 3 c := A.2 3 (by decide) _
  have ic : vp_in (nI c) 3 := inb (by omega)
  have key : ∀ n k, k + n = 12 → wpE 47 6 [some (.ref b), some (.ref p), some (.int (nI fr)), some (.int (nI c)), some (.int (sumK (σ 2 c) (fun k => hG h p (fr + k)) k)), some (.int (nI k))] [] h (0, 0) Q := by
    intro n
    induction n with
    | zero =>
      intro k hk
      have hk : k = 12 := by omega
      subst hk
      have c0 : nI 12 ≤ nI 12 := nI_le (Nat.le_refl 12) (by decide)
      refine r_S_constraintIsMet_6 S.1 S.f6 S.k3 S.f5 S.k2 hp (fun _ => ic) (fun _ z => ?_) (fun _ z => ?_) (fun c => absurd c0 c) (fun c => absurd c0 c) (fun c => absurd c0 c) (fun c => absurd c0 c)
      · rw [cc, g3] at z; exact H1 z
      · rw [cc, g3] at z; exact H2 z
    | succ n ih =>
      intro k hk
      have hck : ¬ nI 12 ≤ nI k := nI_ge (by omega) (by decide)
      have h9 := ih (k + 1) (by omega)
      refine r_S_constraintIsMet_6 S.1 S.f6 S.k3 S.f5 S.k2 hp (fun c => absurd c hck) (fun c => absurd c hck) (fun c => absurd c hck) (fun _ => ic) (fun _ z => ?_) (fun _ _ => by rw [nI_add]; exact inb (by omega)) (fun _ z => ?_)
      · rw [cc, g2] at z
        unfold sumK at h9
        rw [if_neg z] at h9
        rw [nI_s]; exact h9
      · rw [cc, g2] at z
        unfold sumK at h9
        rw [if_pos z] at h9
        rw [nI_s, nI_add, cl (by omega)]; exact h9
  exact r_S_constraintIsMet_0 (key 12 0 rfl)

