/-! ===== the Model: isPivot, whyRefused ===== -/
def pv3 (R : Nat → Nat → Bool) (x p y : Nat) : Bool := ((decide (x = 16) || decide (p = 16)) || decide (y = 16)) && (R x p && R p y)
def pvC (R : Nat → Nat → Bool) (x p n : Nat) : Bool := anyN (fun y => pv3 R x p y) n
def pvB (R : Nat → Nat → Bool) (x n : Nat) : Bool := anyN (fun p => pvC R x p 17) n
def pvA (R : Nat → Nat → Bool) (n : Nat) : Bool := anyN (fun x => pvB R x 17) n
theorem bi_n0 {z : Bool} (h : ¬ bi z = 0) : z = true := by cases z <;> first | rfl | exact absurd bi_f h
theorem bi_0 {z : Bool} (h : bi z = 0) : z = false := by cases z <;> first | rfl | exact absurd h bi_t
theorem s_M_isPivot {h : sn_H} {m c w : Nat} {μ0 : sn_V} {Q : Option Value → sn_H → Prop} (S : MoS h m) (hc : c < 2 ^ 30) (h0 : μ0 1 0 = nI c) (hw : w < 8)
    (H : ∀ μ, (∀ j k, j ≠ 5 → ¬ (j = 0 ∧ k = 6) → μ j k = μ0 j k) → Q (some (.int (bi (pvA (mR μ0 c w true (nI 4)) 17)))) (mpt h m μ)) :
    wpE 129 0 [some (.ref m), some (.int (nI w)), none, none, none, none] [] (mpt h m μ0) (0, 0) Q := by
  have e1 : (up μ0 0 6 (nI w)) 1 = μ0 1 := funext fun k => up_n (by omega)
  refine r_M_isPivot_0 S.1 ?_
  rw [mpt_set0]
  refine s_M_findBehind (w := w) (own := true) S hc (by rw [up_n (by omega)]; exact h0) hw (by rw [up_s]; exact ⟨fun _ => slot_n w hw, fun _ => rfl⟩) (fun _ => up_s) (fun μ g1 g2 => ?_)
  have hR : ∀ a j, a < 17 → j < 17 → (bitP (μ 5 a) j ↔ mR μ0 c w true (nI 4) a j = true) := fun a j ha hj => by
    rw [g2 a j ha (by omega), mR_c e1]
    exact ⟨fun q => q.2, fun q => ⟨hj, q⟩⟩
  have H := H μ (fun j k p q => by rw [g1 j k p, up_n q])
  revert hR H
  generalize mR μ0 c w true (nI 4) = R
  intro hR H
  refine r_M_isPivot_10 ?_
  have nn : ∀ {P : Prop}, ¬ nI 17 ≤ nI 17 → P := fun z => absurd (Int32.le_refl _) z
  have inner : ∀ (u : Bool) (x p : Nat), x < 17 → p < 17 → wpE 129 23 [some (.ref m), none, some (.int (bi (u || pvC R x p 17))), some (.int (nI x)), some (.int (nI (p + 1))), none] [] (mpt h m μ) (0, 0) Q →
      ∀ r y, y + r = 17 → wpE 129 33 [some (.ref m), none, some (.int (bi (u || pvC R x p y))), some (.int (nI x)), some (.int (nI p)), some (.int (nI y))] [] (mpt h m μ) (0, 0) Q := by
    intro u x p hx hp K r
    induction r with
    | zero =>
      intro y hy
      have e : y = 17 := hy
      subst e
      exact r_M_isPivot_33 S.1 S.f5.1 S.f5.2 (fun _ => by rw [nI_s]; exact K) nn nn nn nn nn nn nn nn nn nn nn nn nn nn nn nn nn
    | succ r ih =>
      intro y hy
      have nb : ∀ {P : Prop}, nI 17 ≤ nI y → P := fun z => absurd z (nI_ge (by omega) (by omega))
      have IH := ih (y + 1) (by omega)
      have es : (u || pvC R x p (y + 1)) = ((u || pvC R x p y) || pv3 R x p y) := by unfold pvC; rw [anyN, Bool.or_assoc]
      rw [es] at IH
      generalize (u || pvC R x p y) = z at IH ⊢
      have fin : ∀ t t' : Bool, pv3 R x p y = t → (z || t) = t' → wpE 129 33 [some (.ref m), none, some (.int (bi t')), some (.int (nI x)), some (.int (nI p)), some (.int (nI y + nI 1))] [] (mpt h m μ) (0, 0) Q := by
        rintro _ _ rfl rfl
        rw [nI_s]
        exact IH
      have gx : hG (mpt h m μ) (m + 5) (nI x).toNatClampNeg = μ 5 x := by rw [cl (by omega), mpt_get (by decide)]
      have gp : hG (mpt h m μ) (m + 5) (nI p).toNatClampNeg = μ 5 p := by rw [cl (by omega), mpt_get (by decide)]
      have f1 : ¬ bitP (μ 5 x) p → pv3 R x p y = false := fun q => by
        have : R x p = false := Bool.eq_false_iff.mpr (fun q2 => q ((hR x p hx hp).mpr q2))
        unfold pv3; rw [this, Bool.false_and, Bool.and_false]
      have f2 : ¬ bitP (μ 5 p) y → pv3 R x p y = false := fun q => by
        have : R p y = false := Bool.eq_false_iff.mpr (fun q2 => q ((hR p y hp (by omega)).mpr q2))
        unfold pv3; rw [this, Bool.and_false, Bool.and_false]
      have f3 : ¬ nI x = nI 16 → ¬ nI p = nI 16 → ¬ nI y = nI 16 → pv3 R x p y = false := fun q1 q2 q3 => by
        have e1 : ¬ x = 16 := fun e => q1 (by rw [e])
        have e2 : ¬ p = 16 := fun e => q2 (by rw [e])
        have e3 : ¬ y = 16 := fun e => q3 (by rw [e])
        unfold pv3; rw [decide_eq_false e1, decide_eq_false e2, decide_eq_false e3]; rfl
      have t1 : nI x = nI 16 ∨ nI p = nI 16 ∨ nI y = nI 16 → bitP (μ 5 x) p → bitP (μ 5 p) y → pv3 R x p y = true := fun q1 q2 q3 => by
        unfold pv3
        rw [(hR x p hx hp).mp q2, (hR p y hp (by omega)).mp q3]
        rw [nI_eq (by omega) (by omega), nI_eq (by omega) (by omega), nI_eq (by omega) (by omega)] at q1
        rcases q1 with q1 | q1 | q1
        · rw [decide_eq_true q1]; rfl
        · rw [decide_eq_true q1, Bool.or_true]; rfl
        · rw [decide_eq_true q1, Bool.or_true]; rfl
      refine r_M_isPivot_33 S.1 S.f5.1 S.f5.2 nb (fun _ q => fin (pv3 R x p y) true rfl (by rw [bi_n0 q]; rfl)) (fun _ _ _ => inb hx)
        (fun _ q c1 c2 => ?_) (fun _ _ _ _ => inb hp) (fun _ q c1 c2 c3 => ?_) (fun _ q c1 c2 c3 => ?_) (fun _ _ _ _ => inb hx) (fun _ q c1 c2 c3 => ?_) (fun _ _ _ _ _ => inb hp) (fun _ q c1 c2 c3 c4 => ?_) (fun _ q c1 c2 c3 c4 => ?_)
        (fun _ q c1 c2 c3 => fin false false (f3 c1 c2 c3) (by rw [bi_0 q]; rfl)) (fun _ _ _ _ _ => inb hx) (fun _ q c1 c2 c3 c4 => ?_) (fun _ _ _ _ _ _ => inb hp) (fun _ q c1 c2 c3 c4 c5 => ?_) (fun _ q c1 c2 c3 c4 c5 => ?_)
      · rw [gx] at c2; exact fin false false (f1 c2) (by rw [bi_0 q]; rfl)
      · rw [gp] at c3; exact fin false false (f2 c3) (by rw [bi_0 q]; rfl)
      · rw [gx] at c2; rw [gp] at c3; exact fin true true (t1 (Or.inl c1) c2 c3) (by rw [bi_0 q]; rfl)
      · rw [gx] at c3; exact fin false false (f1 c3) (by rw [bi_0 q]; rfl)
      · rw [gp] at c4; exact fin false false (f2 c4) (by rw [bi_0 q]; rfl)
      · rw [gx] at c3; rw [gp] at c4; exact fin true true (t1 (Or.inr (Or.inl c2)) c3 c4) (by rw [bi_0 q]; rfl)
      · rw [gx] at c4; exact fin false false (f1 c4) (by rw [bi_0 q]; rfl)
      · rw [gp] at c5; exact fin false false (f2 c5) (by rw [bi_0 q]; rfl)
      · rw [gx] at c4; rw [gp] at c5; exact fin true true (t1 (Or.inr (Or.inr c3)) c4 c5) (by rw [bi_0 q]; rfl)
  have middle : ∀ (u : Bool) (x : Nat), x < 17 → wpE 129 14 [some (.ref m), none, some (.int (bi (u || pvB R x 17))), some (.int (nI (x + 1))), none, none] [] (mpt h m μ) (0, 0) Q →
      ∀ r p, p + r = 17 → wpE 129 23 [some (.ref m), none, some (.int (bi (u || pvB R x p))), some (.int (nI x)), some (.int (nI p)), none] [] (mpt h m μ) (0, 0) Q := by
    intro u x hx K r
    induction r with
    | zero =>
      intro p hp
      have e : p = 17 := hp
      subst e
      exact r_M_isPivot_23 (fun _ => by rw [nI_s]; exact K) nn
    | succ r ih =>
      intro p hp
      refine r_M_isPivot_23 (fun z => absurd z (nI_ge (by omega) (by omega))) (fun _ => ?_)
      have := inner (u || pvB R x p) x p hx (by omega) (by
        have w := ih (p + 1) (by omega)
        have es : (u || pvB R x (p + 1)) = ((u || pvB R x p) || pvC R x p 17) := by unfold pvB; rw [anyN, Bool.or_assoc]
        rw [es] at w
        exact w) 17 0 (Nat.zero_add _)
      have e0 : ((u || pvB R x p) || pvC R x p 0) = (u || pvB R x p) := Bool.or_false _
      rw [e0] at this
      exact this
  suffices ∀ r x, x + r = 17 → wpE 129 14 [some (.ref m), none, some (.int (bi (pvA R x))), some (.int (nI x)), none, none] [] (mpt h m μ) (0, 0) Q from this 17 0 (Nat.zero_add _)
  intro r
  induction r with
  | zero =>
    intro x hx
    have e : x = 17 := hx
    subst e
    exact r_M_isPivot_14 (fun _ => H) (fun _ => bi_nar _) nn
  | succ r ih =>
    intro x hx
    refine r_M_isPivot_14 (fun z => absurd z (nI_ge (by omega) (by omega))) (fun _ => bi_nar _) (fun _ => ?_)
    have := middle (pvA R x) x (by omega) (by
      have w := ih (x + 1) (by omega)
      have es : pvA R (x + 1) = (pvA R x || pvB R x 17) := by unfold pvA; rw [anyN]
      rw [es] at w
      exact w) 17 0 (Nat.zero_add _)
    have e0 : (pvA R x || pvB R x 0) = pvA R x := Bool.or_false _
    rw [e0] at this
    exact this
/-- is there a ring, a pivot; the reason -/
def rgM (μ : sn_V) (c w : Nat) : Bool := decide (nxN (mR μ c w true (nI 7)) (dst (mR μ c w true (nI 7)) 17 16 16) 16 17 ≠ 17)
def pvM (μ : sn_V) (c w : Nat) : Bool := pvA (mR μ c w true (nI 4)) 17
def wyM (μ : sn_V) (c w p : Nat) : Nat := if ovM μ w 12 = true then 1 else if p < 1 then 0 else if rgM μ c w = true then 2 else if p = 2 ∧ pvM μ c w = true then 3 else 0
theorem wyM_lt (μ : sn_V) (c w p : Nat) : wyM μ c w p < 4 := by unfold wyM; split; omega; split; omega; split; omega; split <;> omega
theorem pvM_c {μ μ' : sn_V} {c w : Nat} (e : μ' 1 = μ 1) : pvM μ' c w = pvM μ c w := by
  unfold pvM
  congr 1
  funext a b
  exact mR_c e
theorem bi_le1 : ∀ p, p < 3 → (nI p < nI 1 ↔ p < 1) := by decide +kernel
theorem s_M_whyRefused {h : sn_H} {m c w p : Nat} {μ0 : sn_V} {Q : Option Value → sn_H → Prop} (S : MoS h m) (hc : c < 2 ^ 30) (h0 : μ0 1 0 = nI c) (hw : w < 8) (hp : p < 3)
    (H : ∀ μ, (∀ j k, j ≠ 5 → j ≠ 6 → ¬ (j = 0 ∧ k = 6) → μ j k = μ0 j k) → Q (some (.int (nI (wyM μ0 c w p)))) (mpt h m μ)) :
    wpE 116 0 [some (.ref m), some (.int (nI w)), some (.int (nI p))] [] (mpt h m μ0) (0, 0) Q := by
  refine r_M_whyRefused_0 S.1 (s_M_isOverwritten (mpt_A S) hw ?_)
  unfold wyM at H
  cases ov : ovM μ0 w 12 with
  | true =>
    rw [ov] at H
    exact r_M_whyRefused_5 S.1 (fun z => absurd z bi_t) (fun z => absurd z bi_t) (fun z => absurd z bi_t) (fun _ => H μ0 (fun _ _ _ _ _ => rfl))
  | false =>
    rw [ov, if_neg (by decide)] at H
    refine r_M_whyRefused_5 S.1 (fun _ z _ => ?_) (fun _ z z2 => ?_) (fun _ z => ?_) (fun z => absurd bi_f z)
    · rw [bi_le1 p hp] at z
      have := H μ0 (fun _ _ _ _ _ => rfl)
      rw [if_pos z] at this
      exact this
    · rw [bi_le1 p hp] at z
      have := (nI_eq (by omega) (by omega)).mp z2
      omega
    · rw [bi_le1 p hp] at z
      rw [if_neg z] at H
      refine s_M_hasRing S hc h0 hw (fun μ g1 _ _ _ => ?_)
      cases rg : rgM μ0 c w with
      | true =>
        rw [rg, if_pos rfl] at H
        rw [show decide (nxN (mR μ0 c w true (nI 7)) (dst (mR μ0 c w true (nI 7)) 17 16 16) 16 17 ≠ 17) = true from rg]
        exact r_M_whyRefused_20 S.1 (fun z => absurd z bi_t) (fun z => absurd z bi_t) (fun _ => H μ g1)
      | false =>
        rw [rg, if_neg (by decide)] at H
        rw [show decide (nxN (mR μ0 c w true (nI 7)) (dst (mR μ0 c w true (nI 7)) 17 16 16) 16 17 ≠ 17) = false from rg]
        refine r_M_whyRefused_20 S.1 (fun _ z2 => ?_) (fun _ z2 => ?_) (fun z => absurd bi_f z)
        · have := H μ g1
          rw [if_neg (fun q => z2 (by rw [q.1]))] at this
          exact this
        · have p2 : p = 2 := (nI_eq (by omega) (by omega)).mp z2
          have ec : μ 1 = μ0 1 := funext fun k => g1 1 k (by omega) (by omega) (by omega)
          refine s_M_isPivot S hc (by rw [ec]; exact h0) hw (fun μ' g2 => ?_)
          have hh := H μ' (fun j k a b d => by rw [g2 j k a d]; exact g1 j k a b d)
          show wpE 116 35 [none, none, none] [.int (bi (pvM μ c w))] _ _ _
          rw [pvM_c ec]
          cases pv : pvM μ0 c w with
          | true =>
            rw [pv, if_pos ⟨p2, rfl⟩] at hh
            exact r_M_whyRefused_35 (fun z => absurd z bi_t) (fun _ => hh)
          | false =>
            rw [pv, if_neg (fun q => absurd q.2 (by decide))] at hh
            exact r_M_whyRefused_35 (fun _ => hh) (fun z => absurd bi_f z)
