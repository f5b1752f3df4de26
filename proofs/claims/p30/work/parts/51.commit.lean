/-! ===== the law's commit ===== -/
/-- nothing but the arrays at z and new places -/
def Ch (z : Nat) (h h' : sn_H) : Prop := hN h ≤ hN h' ∧ ∀ p, p < hN h → hK h' p = hK h p ∧ (∀ k, hR h' p k = hR h p k) ∧ (¬ (z ≤ p ∧ p ≤ z + 3) → ∀ k, hG h' p k = hG h p k)
theorem Ch.tr {z : Nat} {h h1 h2 : sn_H} (a : Ch z h h1) (b : Ch z h1 h2) : Ch z h h2 :=
  ⟨Nat.le_trans a.1 b.1, fun p hp => by
    obtain ⟨a1, a2, a3⟩ := a.2 p hp
    obtain ⟨b1, b2, b3⟩ := b.2 p (Nat.lt_of_lt_of_le hp a.1)
    exact ⟨b1.trans a1, fun k => (b2 k).trans (a2 k), fun e k => (b3 e k).trans (a3 e k)⟩⟩
theorem Nw.ch {h h' : sn_H} (a : Nw h h') (z : Nat) : Ch z h h' := ⟨a.1, fun p hp => ⟨(a.2 p hp).1, (a.2 p hp).2.1, fun _ => (a.2 p hp).2.2⟩⟩
theorem Ch.sG {z : Nat} {h h0 : sn_H} {p k : Nat} {x : Int32} (a : Ch z h0 h) (hp : z ≤ p ∧ p ≤ z + 3) : Ch z h0 (setG h p k x) :=
  ⟨a.1, fun q hq => by
    obtain ⟨a1, a2, a3⟩ := a.2 q hq
    exact ⟨a1, a2, fun e j => (if_neg (fun y => e (by rw [y.1]; exact hp))).trans (a3 e j)⟩⟩
theorem Ar1.set {h : sn_H} {p n k : Nat} {x : Int32} {f : Nat → Int32} (A : Ar1 h p n f) : Ar1 (setG h p k x) p n (ua f k x) := ⟨A.1, fun j => by
  unfold ua
  by_cases e : j = k
  · rw [if_pos e, e]; exact setG_s
  · rw [if_neg e, setG_n (fun y => e y.2)]; exact A.2 j⟩
theorem Ar1.oth {h : sn_H} {p p' n k : Nat} {x : Int32} {f : Nat → Int32} (A : Ar1 h p n f) (e : ¬ p = p') : Ar1 (setG h p' k x) p n f := ⟨A.1, fun j => by
  rw [setG_n (fun y => e y.1)]; exact A.2 j⟩
theorem W4.sq {h : sn_H} {z k : Nat} {x : Int32} {q cc v t : Nat → Int32} (W : W4 h z q cc v t) : W4 (setG h z k x) z (ua q k x) cc v t := ⟨W.1, W.2.1.set, W.2.2.1.oth (by omega), W.2.2.2.1.oth (by omega), W.2.2.2.2.oth (by omega)⟩
theorem W4.sc {h : sn_H} {z k : Nat} {x : Int32} {q cc v t : Nat → Int32} (W : W4 h z q cc v t) : W4 (setG h (z + 1) k x) z q (ua cc k x) v t := ⟨W.1, W.2.1.oth (by omega), W.2.2.1.set, W.2.2.2.1.oth (by omega), W.2.2.2.2.oth (by omega)⟩
theorem W4.sv {h : sn_H} {z k : Nat} {x : Int32} {q cc v t : Nat → Int32} (W : W4 h z q cc v t) : W4 (setG h (z + 2) k x) z q cc (ua v k x) t := ⟨W.1, W.2.1.oth (by omega), W.2.2.1.oth (by omega), W.2.2.2.1.set, W.2.2.2.2.oth (by omega)⟩
theorem W4.st {h : sn_H} {z k : Nat} {x : Int32} {q cc v t : Nat → Int32} (W : W4 h z q cc v t) : W4 (setG h (z + 3) k x) z q cc v (ua t k x) := ⟨W.1, W.2.1.oth (by omega), W.2.2.1.oth (by omega), W.2.2.2.1.oth (by omega), W.2.2.2.2.set⟩
theorem s_L_commit {h : sn_H} {z c i p : Nat} {σ : sn_V} {q cc v t : Nat → Int32} {Q : Option Value → sn_H → Prop} (R : PR c σ q cc v t) (W : W4 h z q cc v t) (hc : c ≤ 14) (hi : i < 4) (ho : bitP (σ 0 3) i) (h0 : σ 0 0 = nI p) (hp : p < 3)
    (H : ∀ h' q' cc' v' t', Ch z h h' → W4 h' z q' cc' v' t' → PR (cmC σ c i p) (cmS σ c i p) q' cc' v' t' → Q (some (.int (cmV σ c i p))) h') :
    wpE 50 0 [some (.int (nI i)), some (.ref z), some (.ref (z + 1)), some (.ref (z + 2)), some (.ref (z + 3)), none, none] [] h (0, 0) Q := by
  have e1 : q 1 = nI p := by
    obtain ⟨p', a, b, d⟩ := R.pol
    have : p' = p := by rw [b] at h0; exact (nI_eq (by omega) (by omega)).mp h0
    rw [d, this]
  refine r_L_commit_0 W.2.1.1 (inb (by omega)) ?_
  rw [c1', W.2.1.2, e1]
  refine s_L_reason R W hi ho hp (fun h1 w1 => ?_)
  have W1 := W.nw w1
  have C1 := w1.ch z
  have w4 := wyC_lt σ c i p
  have e0 : hG h1 z (nI 0).toNatClampNeg = nI c := by rw [c0, W1.2.1.2]; exact R.q0
  unfold cmC cmS cmV at H
  refine r_L_commit_11 W1.2.1.1 (fun _ => inb (by omega)) (fun y => ?_) (fun _ => by rw [nI_add]; exact inb (by omega)) (fun y => ?_)
  · rw [nI_le0 (by omega)] at y
    rw [y] at H ⊢
    rw [e0, nI_s, c0]
    have W2 := W1.sq (k := 0) (x := nI (c + 1))
    have C2 := C1.sG (p := z) (k := 0) (x := nI (c + 1)) (by omega)
    generalize setG h1 z 0 (nI (c + 1)) = h2 at W2 C2 ⊢
    -- the end
    have g110 : ∀ h' cc' v', Ch z h h' → W4 h' z (ua q 0 (nI (c + 1))) cc' v' t → PR (c + 1) (fKeep σ i (8 + c % 16)) (ua q 0 (nI (c + 1))) cc' v' (ua t (3 * i) (-(nI 1))) → wpE 50 110 [some (.int (nI i)), some (.ref z), none, none, some (.ref (z + 3)), some (.int (nI 0)), none] [] h' (3, 54) Q := by
      intro h' cc' v' C' W' P'
      have i3 : (nI 3 * nI i).toNatClampNeg = 3 * i := by rw [pk_mul]; exact cl (by omega)
      refine r_L_commit_110 W'.2.2.2.2.1 W'.2.1.1 (by rw [pk_mul]; exact inb (by omega)) (fun _ => inb (by omega)) (fun _ => ?_) (fun y => absurd (by rw [nI_0]; exact Int32.le_refl _) y)
      have W3 := W'.st (k := 3 * i) (x := -(nI 1))
      have hh := H _ _ _ _ _ (C'.sG (p := z + 3) (k := 3 * i) (x := -(nI 1)) (by omega)) W3 (by rw [if_neg (by omega), if_neg (by omega)]; exact P')
      rw [if_neg (by omega)] at hh
      rw [i3, c0, W3.2.1.2 0, ua_s]
      exact hh
    -- the values
    have g76 : ∀ cc', (∀ w, w < 3 → cc' (16 * w + (c + 1)) = t (3 * i + w)) → (∀ x, (∀ w, w < 3 → ¬ x = 16 * w + (c + 1)) → cc' x = cc x) → ∀ m k h' v', k + m = 4 → Ch z h h' → W4 h' z (ua q 0 (nI (c + 1))) cc' v' t → (∀ k', k' < k → v' (4 * (c + 1) + k') = t (12 + 4 * i + k')) → (∀ x, (∀ k', k' < k → ¬ x = 4 * (c + 1) + k') → v' x = v x) →
        wpE 50 76 [some (.int (nI i)), some (.ref z), none, some (.ref (z + 2)), some (.ref (z + 3)), some (.int (nI 0)), some (.int (nI k))] [] h' (3, 54) Q := by
      intro cc' k1 k2 m
      induction m with
      | zero =>
        intro k h' v' hk C' W' k3 k4
        have e : k = 4 := hk
        subst e
        refine r_L_commit_76 W'.2.1.1 W'.2.2.2.2.1 W'.2.2.2.1.1 (fun _ => ?_) (fun y => absurd (Int32.le_refl _) y) (fun y => absurd (Int32.le_refl _) y) (fun y => absurd (Int32.le_refl _) y) (fun y => absurd (Int32.le_refl _) y)
        exact g110 h' cc' v' C' W' (pr_keep R hc hi ho k1 k2 k3 k4)
      | succ m ih =>
        intro k h' v' hk C' W' k3 k4
        have q0' : hG h' z (nI 0).toNatClampNeg = nI (c + 1) := by rw [c0, W'.2.1.2, ua_s]
        have ix : (nI 12 + (nI 4 * nI i)) + nI k = nI (12 + 4 * i + k) := by rw [pk_mul, nI_add, nI_add]
        have ix2 : (nI 4 * nI (c + 1)) + nI k = nI (4 * (c + 1) + k) := by rw [pk_mul, nI_add]
        refine r_L_commit_76 W'.2.1.1 W'.2.2.2.2.1 W'.2.2.2.1.1 (fun y => absurd y (nI_ge (by omega) (by omega))) (fun _ => inb (by omega)) (fun _ => by rw [ix]; exact inb (by omega)) (fun _ => by rw [q0', ix2]; exact inb (by omega)) (fun _ => ?_)
        rw [q0', ix, ix2, cl (by omega), cl (by omega), W'.2.2.2.2.2, nI_s]
        refine ih (k + 1) _ _ (by omega) (C'.sG (by omega)) W'.sv (fun k' hk' => ?_) (fun x hx => ?_)
        · by_cases e : k' = k
          · rw [e, ua_s]
          · rw [ua_n (by omega)]; exact k3 k' (by omega)
        · rw [ua_n (hx k (by omega))]; exact k4 x (fun k' hk' => hx k' (by omega))
    -- the commit's row
    have g41 : ∀ m w h' cc', w + m = 3 → Ch z h h' → W4 h' z (ua q 0 (nI (c + 1))) cc' v t → (∀ w', w' < w → cc' (16 * w' + (c + 1)) = t (3 * i + w')) → (∀ x, (∀ w', w' < w → ¬ x = 16 * w' + (c + 1)) → cc' x = cc x) →
        wpE 50 41 [some (.int (nI i)), some (.ref z), some (.ref (z + 1)), some (.ref (z + 2)), some (.ref (z + 3)), some (.int (nI 0)), some (.int (nI w))] [] h' (3, 54) Q := by
      intro m
      induction m with
      | zero =>
        intro w h' cc' hw C' W' k1 k2
        have e : w = 3 := hw
        subst e
        refine r_L_commit_41 W'.2.1.1 W'.2.2.2.2.1 W'.2.2.1.1 (fun _ => ?_) (fun y => absurd (Int32.le_refl _) y) (fun y => absurd (Int32.le_refl _) y) (fun y => absurd (Int32.le_refl _) y) (fun y => absurd (Int32.le_refl _) y)
        exact g76 cc' k1 k2 4 0 h' v rfl C' W' (fun k hk => absurd hk (Nat.not_lt_zero k)) (fun _ _ => rfl)
      | succ m ih =>
        intro w h' cc' hw C' W' k1 k2
        have q0' : hG h' z (nI 0).toNatClampNeg = nI (c + 1) := by rw [c0, W'.2.1.2, ua_s]
        have ix : (nI 3 * nI i) + nI w = nI (3 * i + w) := by rw [pk_mul, nI_add]
        have ix2 : (nI 16 * nI w) + nI (c + 1) = nI (16 * w + (c + 1)) := by rw [pk_mul, nI_add]
        refine r_L_commit_41 W'.2.1.1 W'.2.2.2.2.1 W'.2.2.1.1 (fun y => absurd y (nI_ge (by omega) (by omega))) (fun _ => inb (by omega)) (fun _ => by rw [ix]; exact inb (by omega)) (fun _ => by rw [q0', ix2]; exact inb (by omega)) (fun _ => ?_)
        rw [q0', ix, ix2, cl (by omega), cl (by omega), W'.2.2.2.2.2, nI_s]
        refine ih (w + 1) _ _ (by omega) (C'.sG (by omega)) W'.sc (fun w' hw' => ?_) (fun x hx => ?_)
        · by_cases e : w' = w
          · rw [e, ua_s]
          · rw [ua_n (by omega)]; exact k1 w' (by omega)
        · rw [ua_n (hx w (by omega))]; exact k2 x (fun w' hw' => hx w' (by omega))
    exact g41 3 0 h2 cc rfl C2 W2 (fun k hk => absurd hk (Nat.not_lt_zero k)) (fun _ _ => rfl)
  · rw [nI_le0 (by omega)] at y
    have y0 : 0 < wyC σ c i p := by omega
    rw [if_pos y0, if_pos y0, if_pos y0] at H
    rw [nI_add, cl (by omega : 1 + wyC σ c i p < 2 ^ 31), W1.2.1.2]
    have W2 := W1.sq (k := 1 + wyC σ c i p) (x := q (1 + wyC σ c i p) + nI 1)
    have C2 := C1.sG (p := z) (k := 1 + wyC σ c i p) (x := q (1 + wyC σ c i p) + nI 1) (by omega)
    generalize setG h1 z (1 + wyC σ c i p) (q (1 + wyC σ c i p) + nI 1) = h2 at W2 C2 ⊢
    have i3 : (nI 3 * nI i).toNatClampNeg = 3 * i := by rw [pk_mul]; exact cl (by omega)
    refine r_L_commit_110 W2.2.2.2.2.1 W2.2.1.1 (by rw [pk_mul]; exact inb (by omega)) (fun _ => inb (by omega)) (fun y => ?_) (fun _ => ?_)
    · rw [nI_le0 (by omega)] at y; omega
    · rw [i3]
      exact H _ _ _ _ _ (C2.sG (p := z + 3) (k := 3 * i) (x := -(nI 1)) (by omega)) W2.st (pr_refuse R hi y0 w4)
