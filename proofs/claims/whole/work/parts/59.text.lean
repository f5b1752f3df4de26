/-! ===== the text: the automaton of the class ===== -/
def aw (a x : Nat) : Nat := match a with
  | 0 => if x = 97 ∨ x = 98 ∨ x = 99 then 1 else if x = 114 then 2 else if x = 119 then 4 else 12
  | 1 => if 48 ≤ x ∧ x ≤ 55 then 11 else 12
  | 2 => if 48 ≤ x ∧ x ≤ 55 then 3 else 12
  | 3 => if 97 ≤ x ∧ x ≤ 108 then 11 else 12
  | 4 => if 48 ≤ x ∧ x ≤ 55 then 5 else 12
  | 5 => if 97 ≤ x ∧ x ≤ 108 then 6 else 12
  | 6 => if x = 61 then 7 else 12
  | 7 => if x = 45 then 8 else if 48 ≤ x ∧ x ≤ 57 then 9 else 12
  | 8 => if 48 ≤ x ∧ x ≤ 57 then 9 else 12
  | 9 => if x = 59 then 0 else if 48 ≤ x ∧ x ≤ 57 then 10 else 12
  | 10 => if x = 59 then 0 else if 48 ≤ x ∧ x ≤ 57 then 11 else 12
  | _ => if x = 59 then 0 else 12
def awI (a x : Nat) : Int32 := if aw a x = 12 then -(nI 1) else nI (aw a x)
theorem aw_le : ∀ a, a < 12 → ∀ x, x < 127 → aw a x ≤ 12 := by decide +kernel
theorem awI_m1 : ∀ a, a < 12 → ∀ x, x < 127 → (awI a x = -(nI 1) ↔ aw a x = 12) := by decide +kernel
theorem nar_ch : ∀ x, x < 127 → narrow .char (.int (nI x)) = .int (nI x) := by decide +kernel
theorem taw_1 : ∀ a, a < 12 → ∀ x, x < 127 → ((nI a).toInt = 0 ∧ (nI x).toInt = 97) → nI 1 = awI a x := by decide +kernel
theorem taw_2 : ∀ a, a < 12 → ∀ x, x < 127 → ((nI a).toInt = 0 ∧ ¬ (nI x).toInt = 97 ∧ (nI x).toInt = 98) → nI 1 = awI a x := by decide +kernel
theorem taw_3 : ∀ a, a < 12 → ∀ x, x < 127 → ((nI a).toInt = 0 ∧ ¬ (nI x).toInt = 97 ∧ ¬ (nI x).toInt = 98 ∧ (nI x).toInt = 99) → nI 1 = awI a x := by decide +kernel
theorem taw_4 : ∀ a, a < 12 → ∀ x, x < 127 → ((nI a).toInt = 0 ∧ ¬ (nI x).toInt = 97 ∧ ¬ (nI x).toInt = 98 ∧ ¬ (nI x).toInt = 99 ∧ (nI x).toInt = 114) → nI 2 = awI a x := by decide +kernel
theorem taw_5 : ∀ a, a < 12 → ∀ x, x < 127 → ((nI a).toInt = 0 ∧ (nI x).toInt = 119) → nI 4 = awI a x := by decide +kernel
theorem taw_7 : ∀ a, a < 12 → ∀ x, x < 127 → ((nI a).toInt = 1 ∧ (nI x) < (nI 48)) → -(nI 1) = awI a x := by decide +kernel
theorem taw_8 : ∀ a, a < 12 → ∀ x, x < 127 → ((nI a).toInt = 1 ∧ ¬ (nI x) < (nI 48) ∧ (nI 55) < (nI x)) → -(nI 1) = awI a x := by decide +kernel
theorem taw_9 : ∀ a, a < 12 → ∀ x, x < 127 → ((nI a).toInt = 1 ∧ ¬ (nI x) < (nI 48) ∧ ¬ (nI 55) < (nI x)) → nI 11 = awI a x := by decide +kernel
theorem taw_10 : ∀ a, a < 12 → ∀ x, x < 127 → ((nI a).toInt = 2 ∧ (nI x) < (nI 48)) → -(nI 1) = awI a x := by decide +kernel
theorem taw_11 : ∀ a, a < 12 → ∀ x, x < 127 → ((nI a).toInt = 2 ∧ ¬ (nI x) < (nI 48) ∧ (nI 55) < (nI x)) → -(nI 1) = awI a x := by decide +kernel
theorem taw_12 : ∀ a, a < 12 → ∀ x, x < 127 → ((nI a).toInt = 2 ∧ ¬ (nI x) < (nI 48) ∧ ¬ (nI 55) < (nI x)) → nI 3 = awI a x := by decide +kernel
theorem taw_13 : ∀ a, a < 12 → ∀ x, x < 127 → ((nI a).toInt = 3 ∧ (nI x) < (nI 97)) → -(nI 1) = awI a x := by decide +kernel
theorem taw_14 : ∀ a, a < 12 → ∀ x, x < 127 → ((nI a).toInt = 3 ∧ ¬ (nI x) < (nI 97) ∧ (nI 108) < (nI x)) → -(nI 1) = awI a x := by decide +kernel
theorem taw_15 : ∀ a, a < 12 → ∀ x, x < 127 → ((nI a).toInt = 3 ∧ ¬ (nI x) < (nI 97) ∧ ¬ (nI 108) < (nI x)) → nI 11 = awI a x := by decide +kernel
theorem taw_16 : ∀ a, a < 12 → ∀ x, x < 127 → ((nI a).toInt = 4 ∧ (nI x) < (nI 48)) → -(nI 1) = awI a x := by decide +kernel
theorem taw_17 : ∀ a, a < 12 → ∀ x, x < 127 → ((nI a).toInt = 4 ∧ ¬ (nI x) < (nI 48) ∧ (nI 55) < (nI x)) → -(nI 1) = awI a x := by decide +kernel
theorem taw_18 : ∀ a, a < 12 → ∀ x, x < 127 → ((nI a).toInt = 4 ∧ ¬ (nI x) < (nI 48) ∧ ¬ (nI 55) < (nI x)) → nI 5 = awI a x := by decide +kernel
theorem taw_19 : ∀ a, a < 12 → ∀ x, x < 127 → ((nI a).toInt = 5 ∧ (nI x) < (nI 97)) → -(nI 1) = awI a x := by decide +kernel
theorem taw_20 : ∀ a, a < 12 → ∀ x, x < 127 → ((nI a).toInt = 5 ∧ ¬ (nI x) < (nI 97) ∧ (nI 108) < (nI x)) → -(nI 1) = awI a x := by decide +kernel
theorem taw_21 : ∀ a, a < 12 → ∀ x, x < 127 → ((nI a).toInt = 5 ∧ ¬ (nI x) < (nI 97) ∧ ¬ (nI 108) < (nI x)) → nI 6 = awI a x := by decide +kernel
theorem taw_22 : ∀ a, a < 12 → ∀ x, x < 127 → ((nI a).toInt = 6 ∧ ¬ (nI x) = nI 61) → -(nI 1) = awI a x := by decide +kernel
theorem taw_23 : ∀ a, a < 12 → ∀ x, x < 127 → ((nI a).toInt = 6 ∧ (nI x) = nI 61) → nI 7 = awI a x := by decide +kernel
theorem taw_24 : ∀ a, a < 12 → ∀ x, x < 127 → ((nI a).toInt = 7 ∧ ¬ (nI x) = nI 45 ∧ (nI x) < (nI 48)) → -(nI 1) = awI a x := by decide +kernel
theorem taw_25 : ∀ a, a < 12 → ∀ x, x < 127 → ((nI a).toInt = 7 ∧ ¬ (nI x) = nI 45 ∧ ¬ (nI x) < (nI 48) ∧ (nI 57) < (nI x)) → -(nI 1) = awI a x := by decide +kernel
theorem taw_26 : ∀ a, a < 12 → ∀ x, x < 127 → ((nI a).toInt = 7 ∧ ¬ (nI x) = nI 45 ∧ ¬ (nI x) < (nI 48) ∧ ¬ (nI 57) < (nI x)) → nI 9 = awI a x := by decide +kernel
theorem taw_27 : ∀ a, a < 12 → ∀ x, x < 127 → ((nI a).toInt = 7 ∧ (nI x) = nI 45) → nI 8 = awI a x := by decide +kernel
theorem taw_28 : ∀ a, a < 12 → ∀ x, x < 127 → ((nI a).toInt = 8 ∧ (nI x) < (nI 48)) → -(nI 1) = awI a x := by decide +kernel
theorem taw_29 : ∀ a, a < 12 → ∀ x, x < 127 → ((nI a).toInt = 8 ∧ ¬ (nI x) < (nI 48) ∧ (nI 57) < (nI x)) → -(nI 1) = awI a x := by decide +kernel
theorem taw_30 : ∀ a, a < 12 → ∀ x, x < 127 → ((nI a).toInt = 8 ∧ ¬ (nI x) < (nI 48) ∧ ¬ (nI 57) < (nI x)) → nI 9 = awI a x := by decide +kernel
theorem taw_31 : ∀ a, a < 12 → ∀ x, x < 127 → ((nI a).toInt = 9 ∧ ¬ (nI x) = nI 59 ∧ (nI x) < (nI 48)) → -(nI 1) = awI a x := by decide +kernel
theorem taw_32 : ∀ a, a < 12 → ∀ x, x < 127 → ((nI a).toInt = 9 ∧ ¬ (nI x) = nI 59 ∧ ¬ (nI x) < (nI 48) ∧ (nI 57) < (nI x)) → -(nI 1) = awI a x := by decide +kernel
theorem taw_33 : ∀ a, a < 12 → ∀ x, x < 127 → ((nI a).toInt = 9 ∧ ¬ (nI x) = nI 59 ∧ ¬ (nI x) < (nI 48) ∧ ¬ (nI 57) < (nI x)) → nI 10 = awI a x := by decide +kernel
theorem taw_34 : ∀ a, a < 12 → ∀ x, x < 127 → ((nI a).toInt = 9 ∧ (nI x) = nI 59) → nI 0 = awI a x := by decide +kernel
theorem taw_35 : ∀ a, a < 12 → ∀ x, x < 127 → ((nI a).toInt = 10 ∧ ¬ (nI x) = nI 59 ∧ (nI x) < (nI 48)) → -(nI 1) = awI a x := by decide +kernel
theorem taw_36 : ∀ a, a < 12 → ∀ x, x < 127 → ((nI a).toInt = 10 ∧ ¬ (nI x) = nI 59 ∧ ¬ (nI x) < (nI 48) ∧ (nI 57) < (nI x)) → -(nI 1) = awI a x := by decide +kernel
theorem taw_37 : ∀ a, a < 12 → ∀ x, x < 127 → ((nI a).toInt = 10 ∧ ¬ (nI x) = nI 59 ∧ ¬ (nI x) < (nI 48) ∧ ¬ (nI 57) < (nI x)) → nI 11 = awI a x := by decide +kernel
theorem taw_38 : ∀ a, a < 12 → ∀ x, x < 127 → ((nI a).toInt = 10 ∧ (nI x) = nI 59) → nI 0 = awI a x := by decide +kernel
theorem taw_39 : ∀ a, a < 12 → ∀ x, x < 127 → (((nI a).toInt < 0 ∨ 10 < (nI a).toInt) ∧ ¬ (nI x) = nI 59) → -(nI 1) = awI a x := by decide +kernel
theorem taw_40 : ∀ a, a < 12 → ∀ x, x < 127 → (((nI a).toInt < 0 ∨ 10 < (nI a).toInt) ∧ (nI x) = nI 59) → nI 0 = awI a x := by decide +kernel
theorem s_T_awaitedAfter {a x : Nat} {h : sn_H} {Q : Option Value → sn_H → Prop} (ha : a < 12) (hx : x < 127) (H : Q (some (.int (awI a x))) h) : wpE 74 0 [some (.int (nI a)), some (.int (nI x))] [] h (0, 0) Q :=
  r_T_awaitedAfter_0 (fun c0 c1 => by rw [taw_1 a ha x hx ⟨c0, c1⟩]; exact H) (fun c0 c1 c2 => by rw [taw_2 a ha x hx ⟨c0, c1, c2⟩]; exact H) (fun c0 c1 c2 c3 => by rw [taw_3 a ha x hx ⟨c0, c1, c2, c3⟩]; exact H) (fun c0 c1 c2 c3 c4 => by rw [taw_4 a ha x hx ⟨c0, c1, c2, c3, c4⟩]; exact H) (fun c0 c1 c2 c3 c4 c5 => by rw [taw_5 a ha x hx ⟨c0, c5⟩]; exact H) (fun c0 c1 c2 c3 c4 c5 => by
    rw [nI_toInt (show a < 2 ^ 31 by omega)] at c0
    rw [nI_toInt (show x < 2 ^ 31 by omega)] at c1 c2 c3 c4 c5
    have e : a = 0 := by omega
    have e1 : aw 0 x = 12 := by
      show (if x = 97 ∨ x = 98 ∨ x = 99 then 1 else if x = 114 then 2 else if x = 119 then 4 else 12) = 12
      rw [if_neg (by omega), if_neg (by omega), if_neg (by omega)]
    have e2 : awI a x = -(nI 1) := by rw [e]; exact if_pos e1
    rw [← e2]; exact H) (fun c0 c1 => by rw [taw_7 a ha x hx ⟨c0, c1⟩]; exact H) (fun c0 c1 c2 => by rw [taw_8 a ha x hx ⟨c0, c1, c2⟩]; exact H) (fun c0 c1 c2 => by rw [taw_9 a ha x hx ⟨c0, c1, c2⟩]; exact H) (fun c0 c1 => by rw [taw_10 a ha x hx ⟨c0, c1⟩]; exact H) (fun c0 c1 c2 => by rw [taw_11 a ha x hx ⟨c0, c1, c2⟩]; exact H) (fun c0 c1 c2 => by rw [taw_12 a ha x hx ⟨c0, c1, c2⟩]; exact H) (fun c0 c1 => by rw [taw_13 a ha x hx ⟨c0, c1⟩]; exact H) (fun c0 c1 c2 => by rw [taw_14 a ha x hx ⟨c0, c1, c2⟩]; exact H) (fun c0 c1 c2 => by rw [taw_15 a ha x hx ⟨c0, c1, c2⟩]; exact H) (fun c0 c1 => by rw [taw_16 a ha x hx ⟨c0, c1⟩]; exact H) (fun c0 c1 c2 => by rw [taw_17 a ha x hx ⟨c0, c1, c2⟩]; exact H) (fun c0 c1 c2 => by rw [taw_18 a ha x hx ⟨c0, c1, c2⟩]; exact H) (fun c0 c1 => by rw [taw_19 a ha x hx ⟨c0, c1⟩]; exact H) (fun c0 c1 c2 => by rw [taw_20 a ha x hx ⟨c0, c1, c2⟩]; exact H) (fun c0 c1 c2 => by rw [taw_21 a ha x hx ⟨c0, c1, c2⟩]; exact H) (fun c0 c1 => by rw [taw_22 a ha x hx ⟨c0, c1⟩]; exact H) (fun c0 c1 => by rw [taw_23 a ha x hx ⟨c0, c1⟩]; exact H) (fun c0 c1 c2 => by rw [taw_24 a ha x hx ⟨c0, c1, c2⟩]; exact H) (fun c0 c1 c2 c3 => by rw [taw_25 a ha x hx ⟨c0, c1, c2, c3⟩]; exact H) (fun c0 c1 c2 c3 => by rw [taw_26 a ha x hx ⟨c0, c1, c2, c3⟩]; exact H) (fun c0 c1 => by rw [taw_27 a ha x hx ⟨c0, c1⟩]; exact H) (fun c0 c1 => by rw [taw_28 a ha x hx ⟨c0, c1⟩]; exact H) (fun c0 c1 c2 => by rw [taw_29 a ha x hx ⟨c0, c1, c2⟩]; exact H) (fun c0 c1 c2 => by rw [taw_30 a ha x hx ⟨c0, c1, c2⟩]; exact H) (fun c0 c1 c2 => by rw [taw_31 a ha x hx ⟨c0, c1, c2⟩]; exact H) (fun c0 c1 c2 c3 => by rw [taw_32 a ha x hx ⟨c0, c1, c2, c3⟩]; exact H) (fun c0 c1 c2 c3 => by rw [taw_33 a ha x hx ⟨c0, c1, c2, c3⟩]; exact H) (fun c0 c1 => by rw [taw_34 a ha x hx ⟨c0, c1⟩]; exact H) (fun c0 c1 c2 => by rw [taw_35 a ha x hx ⟨c0, c1, c2⟩]; exact H) (fun c0 c1 c2 c3 => by rw [taw_36 a ha x hx ⟨c0, c1, c2, c3⟩]; exact H) (fun c0 c1 c2 c3 => by rw [taw_37 a ha x hx ⟨c0, c1, c2, c3⟩]; exact H) (fun c0 c1 => by rw [taw_38 a ha x hx ⟨c0, c1⟩]; exact H) (fun c0 c1 => by rw [taw_39 a ha x hx ⟨c0, c1⟩]; exact H) (fun c0 c1 => by rw [taw_40 a ha x hx ⟨c0, c1⟩]; exact H)
/-- the first error: none, or its index -/
def feG (tx : Nat → Nat) : Nat → Nat → Nat → Option Nat
  | 0, a, i => if 9 ≤ a then none else some i
  | m + 1, a, i => if aw a (tx i) = 12 then some i else feG tx m (aw a (tx i)) (i + 1)
def fE : Option Nat → Int32
  | none => -(nI 20006)
  | some i => nI i
theorem feG_s {tx : Nat → Nat} {n a i : Nat} (h : i < n) : feG tx (n - i) a i = if aw a (tx i) = 12 then some i else feG tx (n - (i + 1)) (aw a (tx i)) (i + 1) := by
  rw [show n - i = (n - (i + 1)) + 1 by omega]
  rfl
theorem feG_0 {tx : Nat → Nat} {n a : Nat} : feG tx (n - n) a n = if 9 ≤ a then none else some n := by rw [Nat.sub_self]; rfl
theorem s_T_firstError {h : sn_H} {n : Nat} {tx : Nat → Nat} {Q : Option Value → sn_H → Prop} (T : ScA h n tx) (hn : n ≤ 80) (ht : ∀ i, i < n → tx i < 127) (H : Q (some (.int (fE (feG tx n 0 0)))) h) : wpE 72 0 [some (.ref 101), none, none] [] h (0, 0) Q := by
  obtain ⟨t1, t2, t3, t4, t5⟩ := T
  refine r_T_firstError_0 ?_
  suffices ∀ (r i a : Nat), i + r = n → a < 12 → feG tx n 0 0 = feG tx r a i → wpE 72 4 [some (.ref 101), some (.int (nI a)), some (.int (nI i))] [] h (0, 0) Q from this n 0 0 (Nat.zero_add _) (by omega) rfl
  intro r
  induction r with
  | zero =>
    intro i a hi ha e
    have ei : i = n := hi
    have nn : ∀ {P : Prop}, ¬ (hG h 101 1) ≤ nI i → P := fun z => absurd (by rw [t4, ei]; exact Int32.le_refl _) z
    refine r_T_firstError_4 t1 t2 t3 (fun _ z => ?_) (fun _ z => ?_) nn nn nn nn
    · rw [nI_ltI (by omega) (by omega)] at z
      have e2 : feG tx 0 a i = some i := by unfold feG; rw [if_neg (by omega)]
      rw [e, e2] at H
      rw [t4, ← ei]
      exact H
    · rw [nI_ltI (by omega) (by omega)] at z
      have e2 : feG tx 0 a i = none := by unfold feG; rw [if_pos (by omega)]
      rw [e, e2] at H
      exact H
  | succ r ih =>
    intro i a hi ha e
    have hx := ht i (by omega)
    have g : hG h 102 (nI i).toNatClampNeg = nI (tx i) := by rw [cl (by omega)]; exact t5 i (by omega)
    refine r_T_firstError_4 t1 t2 t3 (fun z => ?_) (fun z => ?_) (fun _ z => absurd z (ar_n0 (by omega))) (fun _ _ => inb (by omega)) (fun _ _ => ?_) (fun _ _ => by rw [g]; exact nar_ch _ hx)
    · rw [t4] at z; exact absurd z (nI_ge (by omega) (by omega))
    · rw [t4] at z; exact absurd z (nI_ge (by omega) (by omega))
    · rw [g]
      refine s_T_awaitedAfter ha hx ?_
      have al := aw_le a ha (tx i) hx
      have es : feG tx (r + 1) a i = if aw a (tx i) = 12 then some i else feG tx r (aw a (tx i)) (i + 1) := rfl
      refine r_T_firstError_21 (fun z => ?_) (fun z => ?_)
      · rw [awI_m1 a ha _ hx] at z
        rw [if_neg z] at es
        rw [nI_s]
        have ee : awI a (tx i) = nI (aw a (tx i)) := if_neg z
        rw [ee]
        exact ih (i + 1) (aw a (tx i)) (by omega) (by omega) (e.trans es)
      · rw [awI_m1 a ha _ hx] at z
        rw [if_pos z] at es
        rw [e, es] at H
        exact H
