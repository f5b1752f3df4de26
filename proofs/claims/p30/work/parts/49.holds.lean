/-! ===== the law's holds ===== -/
theorem sumK_s {m : Int32} {f : Nat → Int32} {n : Nat} : sumK m f (n + 1) = if bitP m n then sumK m f n + f n else sumK m f n := rfl
theorem sumK_cut {m : Nat} (hm : m < 16) (f : Nat → Int32) : ∀ j, j ≤ 8 → sumK (nI m) f (4 + j) = sumK (nI m) f 4 := by
  intro j
  induction j with
  | zero => intro _; rfl
  | succ j ih =>
    intro hj
    show sumK (nI m) f (4 + j + 1) = _
    rw [sumK_s, if_neg (hi_bit m hm _ (by omega) (by omega))]
    exact ih (by omega)
def HF (c : Nat) (cc v t : Nat → Int32) (sl : Int32) (f : Nat → Int32) : Prop :=
  (sl = -(nI 1) ∧ ∀ k, k < 4 → f k = valN cc v k c) ∨ ∃ i s, i < 4 ∧ s ≤ 15 ∧ sl = nI i ∧ t (3 * i) = nI s ∧ ∀ k, k < 4 → f k = if bitP (t (3 * i + 2)) k then t (12 + 4 * i + k) else valN cc v k s
theorem s_L_holdsG {h : sn_H} {z c j : Nat} {σ : sn_V} {q cc v t f : Nat → Int32} {sl : Int32} {Q : Option Value → sn_H → Prop} (R : PR c σ q cc v t) (W : W4 h z q cc v t) (hj : j < 3) (F : HF c cc v t sl f) (H : Q (some (.int (bi (decide (¬ sumK (q (6 + 2 * j)) f 4 < q (7 + 2 * j)))))) h) :
    wpE 58 0 [some (.int (nI j)), some (.int sl), some (.ref z), some (.ref (z + 1)), some (.ref (z + 2)), some (.ref (z + 3)), none, none] [] h (0, 0) Q := by
  have c15 := R.c15
  obtain ⟨_, A1, A2, A3, A4⟩ := W
  have e6 : hG h z (nI 6 + (nI 2 * nI j)).toNatClampNeg = q (6 + 2 * j) := by rw [ct_ix, cl (by omega), A1.2]
  have e7 : hG h z (nI 7 + (nI 2 * nI j)).toNatClampNeg = q (7 + 2 * j) := by rw [pk_mul, nI_add, cl (by omega), A1.2]
  have g0 : hG h z (nI 0).toNatClampNeg = nI c := by rw [c0, A1.2]; exact R.q0
  refine r_L_holds_0 ?_
  suffices ∀ m k, k + m = 4 → wpE 58 6 [some (.int (nI j)), some (.int sl), some (.ref z), some (.ref (z + 1)), some (.ref (z + 2)), some (.ref (z + 3)), some (.int (sumK (q (6 + 2 * j)) f k)), some (.int (nI k))] [] h (0, 0) Q from this 4 0 rfl
  intro m
  induction m with
  | zero =>
    intro k hk
    have e : k = 4 := hk
    subst e
    have c0' : nI 4 ≤ nI 4 := Int32.le_refl _
    refine r_L_holds_6 A1.1 A4.1 (fun _ => by rw [pk_mul, nI_add]; exact inb (by omega)) (fun _ y => ?_) (fun _ y => ?_) (fun y => absurd c0' y) (fun y => absurd c0' y) (fun y => absurd c0' y) (fun y => absurd c0' y) (fun y => absurd c0' y) (fun y => absurd c0' y) (fun y => absurd c0' y) (fun y => absurd c0' y) (fun y => absurd c0' y)
    · rw [e7] at y
      rw [decide_eq_false (fun w => w y)] at H
      exact H
    · rw [e7] at y
      rw [decide_eq_true y] at H
      exact H
  | succ m ih =>
    intro k hk
    have nl : ¬ nI 4 ≤ nI k := nI_ge (by omega) (by omega)
    have h9 := ih (k + 1) (by omega)
    rw [sumK_s] at h9
    have b6 : (((hG h z (nI 6 + (nI 2 * nI j)).toNatClampNeg) >>> (nI k &&& 31)) &&& nI 1) = 0 ↔ ¬ bitP (q (6 + 2 * j)) k := by rw [e6, bit_n0]
    have b6' : ¬ (((hG h z (nI 6 + (nI 2 * nI j)).toNatClampNeg) >>> (nI k &&& 31)) &&& nI 1) = 0 → bitP (q (6 + 2 * j)) k := fun y => by rw [b6, Classical.not_not] at y; exact y
    have in6 : vp_in (nI 6 + (nI 2 * nI j)) 12 := by rw [ct_ix]; exact inb (by omega)
    have skip : (((hG h z (nI 6 + (nI 2 * nI j)).toNatClampNeg) >>> (nI k &&& 31)) &&& nI 1) = 0 → wpE 58 6 [some (.int (nI j)), some (.int sl), some (.ref z), some (.ref (z + 1)), some (.ref (z + 2)), some (.ref (z + 3)), some (.int (sumK (q (6 + 2 * j)) f k)), some (.int (nI k + nI 1))] [] h (0, 0) Q := fun y => by
      rw [b6] at y
      rw [if_neg y] at h9
      rw [nI_s]
      exact h9
    rcases F with ⟨rfl, F⟩ | ⟨i, s, hi, hs, rfl, ts, F⟩
    · have ng : ¬ (0 : Int32) ≤ -(nI 1) := by decide
      refine r_L_holds_6 A1.1 A4.1 (fun y => absurd y nl) (fun y => absurd y nl) (fun y => absurd y nl) (fun _ => in6) (fun _ _ y => absurd y ng) (fun _ _ y => absurd y ng) (fun _ _ y => absurd y ng) (fun _ _ y => absurd y ng) (fun _ _ y => absurd y ng) (fun _ _ _ => inb (by omega)) (fun _ y _ => ?_) (fun _ y => skip y)
      rw [if_pos (b6' y), F k (by omega)] at h9
      rw [g0]
      refine s_L_value A2 A3 (by omega) c15 ?_
      refine r_L_holds_48 ?_
      rw [nI_s]
      exact h9
    · have ps : (0 : Int32) ≤ nI i := nI_pos' (by omega)
      have e2 : hG h (z + 3) (nI 3 * nI i + nI 2).toNatClampNeg = t (3 * i + 2) := by rw [pk_mul, nI_add, cl (by omega), A4.2]
      have e0 : hG h (z + 3) (nI 3 * nI i).toNatClampNeg = nI s := by rw [pk_mul, cl (by omega), A4.2, ts]
      have e4 : hG h (z + 3) ((nI 12 + (nI 4 * nI i)) + nI k).toNatClampNeg = t (12 + 4 * i + k) := by rw [pk_mul, nI_add, nI_add, cl (by omega), A4.2]
      refine r_L_holds_6 A1.1 A4.1 (fun y => absurd y nl) (fun y => absurd y nl) (fun y => absurd y nl) (fun _ => in6) (fun _ _ _ => by rw [pk_mul, nI_add]; exact inb (by omega)) (fun _ _ _ _ => by rw [pk_mul]; exact inb (by omega)) (fun _ y _ w => ?_) (fun _ _ _ _ => by rw [pk_mul, nI_add, nI_add]; exact inb (by omega)) (fun _ y _ w => ?_) (fun _ _ y => absurd ps y) (fun _ _ y => absurd ps y) (fun _ y => skip y)
      · rw [e2] at w
        rw [if_pos (b6' y), F k (by omega), if_neg w] at h9
        rw [e0]
        refine s_L_value A2 A3 (by omega) hs ?_
        refine r_L_holds_97 ?_
        rw [nI_s]
        exact h9
      · rw [e2] at w
        rw [if_pos (b6' y), F k (by omega), if_pos w] at h9
        rw [e4, nI_s]
        exact h9
theorem PR.hd {c j : Nat} {σ : sn_V} {q cc v t : Nat → Int32} (R : PR c σ q cc v t) (hj : j < 3) : hdB σ j = decide (¬ sumK (q (6 + 2 * j)) (fun k => valN cc v k c) 4 < q (7 + 2 * j)) := by
  obtain ⟨⟨m, m1, m2, m3⟩, m4⟩ := R.con hj
  unfold hdB
  rw [m2, m3, m4, sumK_cut m1 _ 8 (by omega), sumK_cg 4 (fun k hk => (R.val hk).1)]
theorem s_L_holds {h : sn_H} {z c j : Nat} {σ : sn_V} {q cc v t : Nat → Int32} {Q : Option Value → sn_H → Prop} (R : PR c σ q cc v t) (W : W4 h z q cc v t) (hj : j < 3) (H : Q (some (.int (bi (hdB σ j)))) h) :
    wpE 58 0 [some (.int (nI j)), some (.int (-(nI 1))), some (.ref z), some (.ref (z + 1)), some (.ref (z + 2)), some (.ref (z + 3)), none, none] [] h (0, 0) Q :=
  s_L_holdsG (f := fun k => valN cc v k c) R W hj (Or.inl ⟨rfl, fun _ _ => rfl⟩) (by rw [R.hd hj] at H; exact H)
theorem s_L_holdsFor {h : sn_H} {z c i j : Nat} {σ : sn_V} {q cc v t : Nat → Int32} {Q : Option Value → sn_H → Prop} (R : PR c σ q cc v t) (W : W4 h z q cc v t) (hi : i < 4) (ho : bitP (σ 0 3) i) (hj : j < 3) (H : Q (some (.int (bi (hfB σ i j)))) h) :
    wpE 58 0 [some (.int (nI j)), some (.int (nI i)), some (.ref z), some (.ref (z + 1)), some (.ref (z + 2)), some (.ref (z + 3)), none, none] [] h (0, 0) Q := by
  have c15 := R.c15
  obtain ⟨s, r, w, ⟨b1, b2, b3⟩, ⟨d1, d2⟩, _, ⟨f1, f2⟩, g⟩ := R.up hi ho
  obtain ⟨⟨m, m1, m2, m3⟩, m4⟩ := R.con hj
  refine s_L_holdsG (f := fun k => if bitP (t (3 * i + 2)) k then t (12 + 4 * i + k) else valN cc v k s) R W hj (Or.inr ⟨i, s, hi, by omega, rfl, d1, fun _ _ => rfl⟩) ?_
  have e : hfB σ i j = decide (¬ sumK (q (6 + 2 * j)) (fun k => if bitP (t (3 * i + 2)) k then t (12 + 4 * i + k) else valN cc v k s) 4 < q (7 + 2 * j)) := by
    unfold hfB
    rw [m2, m3, m4, sumK_cut m1 _ 8 (by omega), sumK_cg 4 (fun k hk => by rw [(g k hk).2, ← f1])]
  rw [← e]
  exact H
