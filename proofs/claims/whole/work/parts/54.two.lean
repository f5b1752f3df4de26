/-! ===== pairs of calls: setPolicy, setConstraint, begin, abort, commit ===== -/
theorem op_x {h : sn_H} {σ : sn_V} {s : Nat} {st : Nat → sn_V} {n : Nat} {tx : Nat → Nat} (I : CI h σ s st n tx) {w : Nat} : (((hG h 2 3) >>> (nI w &&& 31)) &&& nI 1) = nI 1 ↔ bitP (σ 0 3) w := by rw [I.g0]
theorem op_m {h : sn_H} {c : Nat} {σ μ : sn_V} (S : MoS h 103) (R : Rel c σ (μ 1)) {w : Nat} (hw : w < 8) : (hG (mpt h 103 μ) 104 ((nI 36 + (nI 40 * nI w)) + (nI 39)).toNatClampNeg) = nI 1 ↔ bitP (σ 0 3) w := by
  have e : (hG (mpt h 103 μ) 104 ((nI 36 + (nI 40 * nI w)) + (nI 39)).toNatClampNeg) = μ 1 (36 + 40 * w + 39) := by
    rw [sl_ix, cl (by omega)]
    exact mpt_get (j := 1) (by decide)
  rw [e]
  exact R.open1 hw
theorem mo_in {w : Nat} (hw : w < 8) : vp_in ((nI 36 + (nI 40 * nI w)) + (nI 39)) 596 := by rw [sl_ix]; exact inb (by omega)
/-- nothing has changed on either side -/
theorem two_same {L : Nat} {scr : Nat → Int32} {B X M : Nat} {eX eM : sn_L} {h : sn_H} (I : Inv B L scr h) (r : Value) (hx : ∀ Q : Option Value → sn_H → Prop, Q (some r) h → wpE X 0 eX [] h (0, 0) Q) (hm : ∀ Q : Option Value → sn_H → Prop, Q (some r) h → wpE M 0 eM [] h (0, 0) Q) : Two L scr B X M eX eM h :=
  fun _ K => hx _ (K r h (fun Q2 K2 => hm Q2 (K2 h (I.mono (by omega)))))
theorem two_setPolicy {L : Nat} {scr : Nat → Int32} {B : Nat} {v : Int32} {h : sn_H} (I : Inv B L scr h) : Two L scr B 5 132 [some (.ref 1), some (.int v), none] [some (.ref 103), some (.int v), none] h := by
  have I0 := I
  obtain ⟨La, c, σ, s, st, n, tx, μ, C, A, R⟩ := I
  have X := C.X
  rcases pk_ix v (n := 3) (by omega) with z | z | ⟨p, hp, rfl⟩
  · refine two_same I0 (.int (-(nI 20002))) (fun Q HQ => ?_) (fun Q HQ => ?_)
    · exact r_X_setPolicy_0 X.1 X.2.2.2.1 X.2.1 C.kH (fun _ => HQ) (fun q => absurd z q) (fun q => absurd z q)
    · exact r_M_setPolicy_0 A.1.1 (fun _ => HQ) (fun q => absurd (ar_lo z) q) (fun q => absurd (ar_lo z) q)
  · refine two_same I0 (.int (-(nI 20002))) (fun Q HQ => ?_) (fun Q HQ => ?_)
    · exact r_X_setPolicy_0 X.1 X.2.2.2.1 X.2.1 C.kH (fun _ => HQ) (fun _ q => absurd ((ar_hi (by omega)).mp z) (Int32.not_lt.mpr q)) (fun _ _ => HQ)
    · exact r_M_setPolicy_0 A.1.1 (fun q => absurd q (ar_ng' z (by omega))) (fun _ _ => HQ) (fun _ q => absurd ((ar_hi (by omega)).mp z) q)
  · have n0 := ar_n0 (w := p) (by omega)
    have n0' := ar_n0' (w := p) (by omega)
    obtain ⟨p0, q1, q2, q3⟩ := R.1.1.2.1
    intro Q K
    refine r_X_setPolicy_0 X.1 X.2.2.2.1 X.2.1 C.kH (fun q => absurd q n0) (fun _ _ => ?_) (fun _ q => absurd (nI_le (by omega) (by omega)) q)
    refine C.push (fun h1 f1 C1 => ?_)
    refine r_X_setPolicy_24 C1.X.1 C1.X.2.1 C1.A.1.1 ?_
    have e0 : hG h1 2 0 = nI p0 := (C1.g0 0).trans q2
    have e1 : setG h1 2 0 (nI p) = hput h1 2 (up σ 0 0 (nI p)) := by
      have : setG h1 2 0 (nI p) = setG (hput h1 2 σ) 2 0 (nI p) := by rw [← C1.A.put]
      rw [this, hput_set0]
    rw [e0, e1]
    have Z1 : StZ (up σ 0 0 (nI p)) := C.Z.upz (by decide)
    obtain ⟨C2, f2⟩ := C1.put Z1
    have f := f1.tr f2
    refine K _ _ (fun Q2 K2 => ?_)
    have A2 := f.Mo A (by omega)
    have La2 := f.La La (by omega)
    refine r_M_setPolicy_0 A2.1.1 (fun q => absurd q n0') (fun _ q => absurd q (ar_nl' (by omega) (by omega))) (fun _ _ => ?_)
    rw [A2.put]
    refine m_push A2.1 R (fun μ' e' R' => ?_)
    refine r_M_setPolicy_17 A2.1.1 A2.1.f1.1 A2.1.f1.2 (inb (by omega)) ?_
    have eg : hG (mpt (hput h1 2 (up σ 0 0 (nI p))) 103 μ') (103 + 1) (nI 1).toNatClampNeg = nI p0 := by rw [cl (by omega), mpt_get (by decide), e']; exact q3
    have es : setG (mpt (hput h1 2 (up σ 0 0 (nI p))) 103 μ') (103 + 1) (nI 1).toNatClampNeg (nI p) = mpt (hput h1 2 (up σ 0 0 (nI p))) 103 (up μ' 1 1 (nI p)) := by rw [cl (by omega), mpt_set (by decide)]
    rw [eg, es]
    refine K2 _ (two_fin (c := c) La2 C2 A2.1 ?_)
    have er : (up μ' 1 1 (nI p)) 1 = uA (μ' 1) 1 (nI p) := funext fun k => by unfold up uA; simp
    exact R'.to (by rw [er]; exact rl_policy R'.1.1 hp) (by have := R.1.2; omega) (by omega) (up_n (by omega)) (up_n (by omega)) (fun k => up_n (by omega)) (fun k => up_n (by omega))
theorem two_setConstraint {L : Nat} {scr : Nat → Int32} {B : Nat} {v x y : Int32} {h : sn_H} (I : Inv B L scr h) : Two L scr B 8 133 [some (.ref 1), some (.int v), some (.int x), some (.int y), none] [some (.ref 103), some (.int v), some (.int x), some (.int y), none] h := by
  have I0 := I
  obtain ⟨La, c, σ, s, st, n, tx, μ, C, A, R⟩ := I
  have X := C.X
  rcases pk_ix v (n := 3) (by omega) with z | z | ⟨p, hp, rfl⟩
  · refine two_same I0 (.int (-(nI 20001))) (fun Q HQ => ?_) (fun Q HQ => ?_)
    · exact r_X_setConstraint_0 X.1 X.2.2.2.1 X.2.1 C.kH (fun _ => HQ) (fun q => absurd z q) (fun q => absurd z q) (fun q => absurd z q) (fun q => absurd z q) (fun q => absurd z q) (fun q => absurd z q)
    · exact r_M_setConstraint_0 A.1.1 (fun _ => HQ) (fun q => absurd (ar_lo z) q) (fun q => absurd (ar_lo z) q) (fun q => absurd (ar_lo z) q) (fun q => absurd (ar_lo z) q) (fun q => absurd (ar_lo z) q) (fun q => absurd (ar_lo z) q)
  · have z' := (ar_hi (by omega)).mp z
    have ng := ar_ng' z (by omega)
    refine two_same I0 (.int (-(nI 20001))) (fun Q HQ => ?_) (fun Q HQ => ?_)
    · exact r_X_setConstraint_0 X.1 X.2.2.2.1 X.2.1 C.kH (fun _ => HQ) (fun _ _ => HQ) (fun _ q => absurd z q) (fun _ q => absurd z q) (fun _ q => absurd z q) (fun _ q => absurd z q) (fun _ q => absurd z q)
    · exact r_M_setConstraint_0 A.1.1 (fun q => absurd q ng) (fun _ _ => HQ) (fun _ q => absurd z' q) (fun _ q => absurd z' q) (fun _ q => absurd z' q) (fun _ q => absurd z' q) (fun _ q => absurd z' q)
  · have n0 := ar_n0 (w := p) (by omega)
    have n0' := ar_n0' (w := p) (by omega)
    have n3 := ar_nl (w := p) (n := 3) (by omega) (by omega)
    have n3' := ar_nl' (w := p) (n := 2) (by omega) (by omega)
    -- is the rest in its range?
    by_cases ok : ¬ x < 0 ∧ ¬ nI 4095 < x ∧ ¬ y < -(nI 9999) ∧ y ≤ nI 9999
    · obtain ⟨o1, o2, o3, o4⟩ := ok
      have o1' : ¬ x < nI 0 := by rw [nI_0]; exact o1
      have o4' := Int32.not_lt.mpr o4
      intro Q K
      refine r_X_setConstraint_0 X.1 X.2.2.2.1 X.2.1 C.kH (fun q => absurd q n0) (fun _ q => absurd q n3) (fun _ _ q => absurd q o1) (fun _ _ _ q => absurd q o2) (fun _ _ _ _ q => absurd q o3) (fun _ _ _ _ _ _ => ?_) (fun _ _ _ _ _ q => absurd o4 q)
      refine C.push (fun h1 f1 C1 => ?_)
      have A1 := C1.A
      refine r_X_setConstraint_51 C1.X.1 C1.X.2.1 A1.1.1 A1.1.f6 A1.1.k3 A1.1.f5 A1.1.k2 (inb (by omega)) (inb (by omega)) ?_
      have e0 : hG h1 (2 + 3) (nI p).toNatClampNeg = σ 3 p := by rw [cl (by omega)]; exact A1.2 3 (by decide) p
      have e1 : setG (setG h1 (2 + 2) (nI p).toNatClampNeg x) (2 + 3) (nI p).toNatClampNeg y = hput h1 2 (up (up σ 2 p x) 3 p y) := by
        have : setG (setG h1 (2 + 2) (nI p).toNatClampNeg x) (2 + 3) (nI p).toNatClampNeg y = setG (setG (hput h1 2 σ) (2 + 2) (nI p).toNatClampNeg x) (2 + 3) (nI p).toNatClampNeg y := by rw [← A1.put]
        rw [this, cl (by omega), hput_set (by decide), hput_set (by decide)]
      rw [e0, e1]
      have Z1 : StZ (up (up σ 2 p x) 3 p y) := (C.Z.upz (show p < 3 from hp)).upz (show p < 3 from hp)
      obtain ⟨C2, f2⟩ := C1.put Z1
      have f := f1.tr f2
      refine K _ _ (fun Q2 K2 => ?_)
      have A2 := f.Mo A (by omega)
      have La2 := f.La La (by omega)
      refine r_M_setConstraint_0 A2.1.1 (fun q => absurd q n0') (fun _ q => absurd q n3') (fun _ _ q => absurd q o1') (fun _ _ _ q => absurd q o2) (fun _ _ _ _ q => absurd q o3) (fun _ _ _ _ _ q => absurd q o4') (fun _ _ _ _ _ _ => ?_)
      rw [A2.put]
      refine m_push A2.1 R (fun μ' e' R' => ?_)
      refine r_M_setConstraint_43 A2.1.1 A2.1.f1.1 A2.1.f1.2 (by rw [ct_ix1]; exact inb (by omega)) (by rw [ct_ix]; exact inb (by omega)) ?_
      have r5 := (R.1.1.2.2.2.2.1 p hp).2
      rw [ct_ix1, ct_ix, cl (by omega : 7 + 2 * p < 2 ^ 31), cl (by omega : 6 + 2 * p < 2 ^ 31), mpt_get (by decide), mpt_set (by decide), mpt_set (by decide), e', r5]
      refine K2 _ (two_fin (c := c) La2 C2 A2.1 ?_)
      have er : (up (up μ' 1 (6 + 2 * p) x) 1 (7 + 2 * p) y) 1 = uA (uA (μ' 1) (6 + 2 * p) x) (7 + 2 * p) y := funext fun k => by unfold up uA; simp
      exact R'.to (by rw [er]; exact rl_constr R'.1.1 hp) (by have := R.1.2; omega) (by omega) (by rw [up_n (by omega), up_n (by omega)]) (by rw [up_n (by omega), up_n (by omega)]) (fun k => by rw [up_n (by omega), up_n (by omega)]) (fun k => by rw [up_n (by omega), up_n (by omega)])
    · refine two_same I0 (.int (-(nI 20002))) (fun Q HQ => ?_) (fun Q HQ => ?_)
      · exact r_X_setConstraint_0 X.1 X.2.2.2.1 X.2.1 C.kH (fun q => absurd q n0) (fun _ q => absurd q n3) (fun _ _ _ => HQ) (fun _ _ _ _ => HQ) (fun _ _ _ _ _ => HQ) (fun _ _ q1 q2 q3 q4 => absurd ⟨q1, q2, q3, q4⟩ ok) (fun _ _ _ _ _ _ => HQ)
      · exact r_M_setConstraint_0 A.1.1 (fun q => absurd q n0') (fun _ q => absurd q n3') (fun _ _ _ => HQ) (fun _ _ _ _ => HQ) (fun _ _ _ _ _ => HQ) (fun _ _ _ _ _ _ => HQ) (fun _ _ q1 q2 q3 q4 => absurd ⟨by rw [← nI_0]; exact q1, q2, q3, Int32.not_lt.mp q4⟩ ok)
theorem s_X_errorOfBegin {h : sn_H} {σ : sn_V} {s : Nat} {st : Nat → sn_V} {n : Nat} {tx : Nat → Nat} {w : Nat} {Q : Option Value → sn_H → Prop} (C : CI h σ s st n tx) (hw : w < 8) (H1 : ¬ bitP (σ 0 3) w → Q (some (.int (nI 0))) h) (H2 : bitP (σ 0 3) w → Q (some (.int (-(nI 20003)))) h) : wpE 11 0 [some (.ref 1), some (.int (nI w))] [] h (0, 0) Q :=
  r_X_errorOfBegin_0 C.X.1 C.X.2.1 C.A.1.1 (fun q => absurd q (ar_n0 (by omega))) (fun _ q => absurd q (ar_nl hw (by omega))) (fun _ _ q => H1 (fun z => q ((op_x C).mpr z))) (fun _ _ q => H2 ((op_x C).mp q))
theorem s_M_whyNotBegun {h : sn_H} {c : Nat} {σ μ : sn_V} {w : Nat} {Q : Option Value → sn_H → Prop} (S : MoS h 103) (R : Rel c σ (μ 1)) (hw : w < 8) (H1 : ¬ bitP (σ 0 3) w → Q (some (.int (nI 0))) (mpt h 103 μ)) (H2 : bitP (σ 0 3) w → Q (some (.int (-(nI 20003)))) (mpt h 103 μ)) : wpE 95 0 [some (.ref 103), some (.int (nI w))] [] (mpt h 103 μ) (0, 0) Q :=
  r_M_whyNotBegun_0 S.1 S.f1.1 S.f1.2 (fun q => absurd q (ar_n0' (by omega))) (fun _ q => absurd q (ar_nl' (by omega) (by omega))) (fun _ _ => mo_in hw) (fun _ _ q => H1 (fun z => q ((op_m S R hw).mpr z))) (fun _ _ q => H2 ((op_m S R hw).mp q))
theorem m1_n0 : ∀ x : Nat, x < 20010 → 0 < x → ¬ (-(nI x) : Int32) = 0 := fun x h1 h2 z => by
  have q : - -(nI x) = -(0 : Int32) := congrArg (fun y => -y) z
  rw [Int32.neg_neg] at q
  have q2 : nI x = nI 0 := q.trans (by decide)
  have := (nI_eq (by omega) (by omega)).mp q2
  omega
theorem m1_neg : ¬ (0 : Int32) ≤ -(nI 20001) ∧ ¬ (0 : Int32) ≤ -(nI 20002) ∧ ¬ (0 : Int32) ≤ -(nI 20003) := by decide
theorem two_begin {L : Nat} {scr : Nat → Int32} {B : Nat} {v : Int32} {h : sn_H} (I : Inv B L scr h) : Two L scr B 10 94 [some (.ref 1), some (.int v), none] [some (.ref 103), some (.int v), none] h := by
  have I0 := I
  obtain ⟨La, c, σ, s, st, n, tx, μ, C, A, R⟩ := I
  have X := C.X
  rcases pk_ix v (n := 8) (by omega) with z | z | ⟨w, hw, rfl⟩
  · refine two_same I0 (.int (-(nI 20001))) (fun Q HQ => ?_) (fun Q HQ => ?_)
    · refine r_X_begin_0 X.1 (r_X_errorOfBegin_0 X.1 X.2.1 C.A.1.1 (fun _ => ?_) (fun q => absurd z q) (fun q => absurd z q) (fun q => absurd z q))
      exact r_X_begin_5 X.1 X.2.2.2.1 X.2.1 C.kH (fun q => absurd q (m1_n0 _ (by omega) (by omega))) (fun _ => HQ)
    · refine r_M_begin_0 A.1.1 (r_M_whyNotBegun_0 A.1.1 A.1.f1.1 A.1.f1.2 (fun _ => ?_) (fun q => absurd (ar_lo z) q) (fun q => absurd (ar_lo z) q) (fun q => absurd (ar_lo z) q) (fun q => absurd (ar_lo z) q))
      exact r_M_begin_5 A.1.1 (fun q => absurd q m1_neg.1) (fun _ => HQ)
  · have z' := (ar_hi (by omega)).mp z
    refine two_same I0 (.int (-(nI 20001))) (fun Q HQ => ?_) (fun Q HQ => ?_)
    · refine r_X_begin_0 X.1 (r_X_errorOfBegin_0 X.1 X.2.1 C.A.1.1 (fun q => absurd q (ar_ng z (by omega))) (fun _ _ => ?_) (fun _ q => absurd z q) (fun _ q => absurd z q))
      exact r_X_begin_5 X.1 X.2.2.2.1 X.2.1 C.kH (fun q => absurd q (m1_n0 _ (by omega) (by omega))) (fun _ => HQ)
    · refine r_M_begin_0 A.1.1 (r_M_whyNotBegun_0 A.1.1 A.1.f1.1 A.1.f1.2 (fun q => absurd q (ar_ng' z (by omega))) (fun _ _ => ?_) (fun _ q => absurd z' q) (fun _ q => absurd z' q) (fun _ q => absurd z' q))
      exact r_M_begin_5 A.1.1 (fun q => absurd q m1_neg.1) (fun _ => HQ)
  · by_cases o : bitP (σ 0 3) w
    · refine two_same I0 (.int (-(nI 20003))) (fun Q HQ => ?_) (fun Q HQ => ?_)
      · refine r_X_begin_0 X.1 (s_X_errorOfBegin C hw (fun q => absurd o q) (fun _ => ?_))
        exact r_X_begin_5 X.1 X.2.2.2.1 X.2.1 C.kH (fun q => absurd q (m1_n0 _ (by omega) (by omega))) (fun _ => HQ)
      · rw [A.put] at HQ ⊢
        refine r_M_begin_0 A.1.1 (s_M_whyNotBegun A.1 R.1.1 hw (fun q => absurd o q) (fun _ => ?_))
        exact r_M_begin_5 A.1.1 (fun q => absurd q m1_neg.2.2) (fun _ => HQ)
    · intro Q K
      refine r_X_begin_0 X.1 (s_X_errorOfBegin C hw (fun _ => ?_) (fun q => absurd q o))
      refine r_X_begin_5 X.1 X.2.2.2.1 X.2.1 C.kH (fun _ => ?_) (fun q => absurd nI_0 q)
      refine C.push (fun h1 f1 C1 => ?_)
      refine r_X_begin_23 C1.X.1 C1.X.2.1 C1.A.1.1 (s_S_start C1.A hw (r_X_begin_31 ?_))
      obtain ⟨C2, f2⟩ := C1.put (Z_start C.Z hw)
      have f := f1.tr f2
      rw [R.1.1.c1]
      refine K _ _ (fun Q2 K2 => ?_)
      have A2 := f.Mo A (by omega)
      have La2 := f.La La (by omega)
      rw [A2.put]
      refine r_M_begin_0 A2.1.1 (s_M_whyNotBegun A2.1 R.1.1 hw (fun _ => ?_) (fun q => absurd q o))
      refine r_M_begin_5 A2.1.1 (fun _ => ?_) (fun q => absurd (nI_pos' (by omega)) q)
      refine m_push A2.1 R (fun μ' e' R' => ?_)
      refine r_M_begin_16 A2.1.1 ?_
      rw [show mpt (hput h1 2 (fStart σ w)) 103 μ' = mpt (hput h1 2 (fStart σ w)) 103 (wA μ' (μ' 1)) by rw [wA_self]]
      refine s_M_begins A2.1 hw (fun a' g0 g1 g2 g3 g4 g5 g6 => ?_)
      refine r_M_begin_21 ?_
      rw [R'.1.1.c2]
      refine K2 _ (two_fin (c := c) La2 C2 A2.1 ?_)
      exact R'.to (by rw [wA_1]; exact rl_begin R'.1.1 hw g0 g1 g2 g3 g4 g5 g6) (by have := R.1.2; omega) (by omega) (wA_n (by omega)) (wA_n (by omega)) (fun k => wA_n (by omega)) (fun k => wA_n (by omega))
theorem two_abort {L : Nat} {scr : Nat → Int32} {B : Nat} {v : Int32} {h : sn_H} (I : Inv B L scr h) : Two L scr B 44 130 [some (.ref 1), some (.int v), none] [some (.ref 103), some (.int v), none] h := by
  have I0 := I
  obtain ⟨La, c, σ, s, st, n, tx, μ, C, A, R⟩ := I
  have X := C.X
  rcases pk_ix v (n := 8) (by omega) with z | z | ⟨w, hw, rfl⟩
  · refine two_same I0 (.int (-(nI 20001))) (fun Q HQ => ?_) (fun Q HQ => ?_)
    · exact r_X_abort_0 X.1 X.2.1 C.A.1.1 X.2.2.2.1 C.kH (fun _ => HQ) (fun q => absurd z q) (fun q => absurd z q) (fun q => absurd z q)
    · exact r_M_abort_0 A.1.1 A.1.f1.1 A.1.f1.2 (fun _ => HQ) (fun q => absurd (ar_lo z) q) (fun q => absurd (ar_lo z) q) (fun q => absurd (ar_lo z) q) (fun q => absurd (ar_lo z) q)
  · have z' := (ar_hi (by omega)).mp z
    refine two_same I0 (.int (-(nI 20001))) (fun Q HQ => ?_) (fun Q HQ => ?_)
    · exact r_X_abort_0 X.1 X.2.1 C.A.1.1 X.2.2.2.1 C.kH (fun _ => HQ) (fun _ _ => HQ) (fun _ q => absurd z q) (fun _ q => absurd z q)
    · exact r_M_abort_0 A.1.1 A.1.f1.1 A.1.f1.2 (fun q => absurd q (ar_ng' z (by omega))) (fun _ _ => HQ) (fun _ q => absurd z' q) (fun _ q => absurd z' q) (fun _ q => absurd z' q)
  · have n0 := ar_n0 (w := w) (by omega)
    have n0' := ar_n0' (w := w) (by omega)
    have n8 := ar_nl (w := w) (n := 8) (by omega) (by omega)
    have n8' := ar_nl' (w := w) (n := 7) (by omega) (by omega)
    by_cases o : bitP (σ 0 3) w
    · intro Q K
      refine r_X_abort_0 X.1 X.2.1 C.A.1.1 X.2.2.2.1 C.kH (fun q => absurd q n0) (fun _ q => absurd q n8) (fun _ _ q => absurd ((op_x C).mpr o) q) (fun _ _ _ => ?_)
      refine C.push (fun h1 f1 C1 => ?_)
      refine r_X_abort_23 C1.X.1 C1.X.2.1 C1.A.1.1 (s_S_giveUp C1.A hw (r_X_abort_31 ?_))
      obtain ⟨C2, f2⟩ := C1.put (Z_give (i := w) C.Z)
      have f := f1.tr f2
      refine K _ _ (fun Q2 K2 => ?_)
      have A2 := f.Mo A (by omega)
      have La2 := f.La La (by omega)
      rw [A2.put]
      refine r_M_abort_0 A2.1.1 A2.1.f1.1 A2.1.f1.2 (fun q => absurd q n0') (fun _ q => absurd q n8') (fun _ _ => mo_in hw) (fun _ _ q => absurd ((op_m A2.1 R.1.1 hw).mpr o) q) (fun _ _ _ => ?_)
      refine m_push A2.1 R (fun μ' e' R' => ?_)
      refine r_M_abort_16 A2.1.1 ?_
      rw [show mpt (hput h1 2 (fGive σ w)) 103 μ' = mpt (hput h1 2 (fGive σ w)) 103 (wA μ' (μ' 1)) by rw [wA_self]]
      refine s_M_aborts A2.1 hw (fun a' g0 g1 g2 => ?_)
      refine r_M_abort_21 ?_
      obtain ⟨⟨_, _, t2, _⟩, ⟨x, x1, x2⟩, _⟩ := (R'.1.1.slot hw).2 o
      rw [t2, x2, ← bc_ones x x1, ← x2]
      refine K2 _ (two_fin (c := c) La2 C2 A2.1 ?_)
      exact R'.to (by rw [wA_1]; exact rl_abort R'.1.1 hw g0 g1 g2) (by have := R.1.2; omega) (by omega) (wA_n (by omega)) (wA_n (by omega)) (fun k => wA_n (by omega)) (fun k => wA_n (by omega))
    · refine two_same I0 (.int (-(nI 20001))) (fun Q HQ => ?_) (fun Q HQ => ?_)
      · exact r_X_abort_0 X.1 X.2.1 C.A.1.1 X.2.2.2.1 C.kH (fun q => absurd q n0) (fun _ q => absurd q n8) (fun _ _ _ => HQ) (fun _ _ q => absurd ((op_x C).mp q) o)
      · rw [A.put] at HQ ⊢
        exact r_M_abort_0 A.1.1 A.1.f1.1 A.1.f1.2 (fun q => absurd q n0') (fun _ q => absurd q n8') (fun _ _ => mo_in hw) (fun _ _ _ => HQ) (fun _ _ q => absurd ((op_m A.1 R.1.1 hw).mp q) o)
theorem two_commit {L : Nat} {scr : Nat → Int32} {B : Nat} {v : Int32} {h : sn_H} (I : Inv B L scr h) (hB : B < 2 ^ 29) : Two L scr B 25 113 [some (.ref 1), some (.int v), none] [some (.ref 103), some (.int v), none] h := by
  have I0 := I
  obtain ⟨La, c, σ, s, st, n, tx, μ, C, A, R⟩ := I
  have X := C.X
  have hc : c < 2 ^ 29 := by have := R.1.2; omega
  rcases pk_ix v (n := 8) (by omega) with z | z | ⟨w, hw, rfl⟩
  · refine two_same I0 (.int (-(nI 20001))) (fun Q HQ => ?_) (fun Q HQ => ?_)
    · exact r_X_commit_0 X.1 X.2.1 C.A.1.1 X.2.2.2.1 C.kH (fun _ => HQ) (fun q => absurd z q) (fun q => absurd z q) (fun q => absurd z q)
    · exact r_M_commit_0 A.1.1 A.1.f1.1 A.1.f1.2 (fun _ => HQ) (fun q => absurd (ar_lo z) q) (fun q => absurd (ar_lo z) q) (fun q => absurd (ar_lo z) q) (fun q => absurd (ar_lo z) q)
  · have z' := (ar_hi (by omega)).mp z
    refine two_same I0 (.int (-(nI 20001))) (fun Q HQ => ?_) (fun Q HQ => ?_)
    · exact r_X_commit_0 X.1 X.2.1 C.A.1.1 X.2.2.2.1 C.kH (fun _ => HQ) (fun _ _ => HQ) (fun _ q => absurd z q) (fun _ q => absurd z q)
    · exact r_M_commit_0 A.1.1 A.1.f1.1 A.1.f1.2 (fun q => absurd q (ar_ng' z (by omega))) (fun _ _ => HQ) (fun _ q => absurd z' q) (fun _ q => absurd z' q) (fun _ q => absurd z' q)
  · have n0 := ar_n0 (w := w) (by omega)
    have n0' := ar_n0' (w := w) (by omega)
    have n8 := ar_nl (w := w) (n := 8) (by omega) (by omega)
    have n8' := ar_nl' (w := w) (n := 7) (by omega) (by omega)
    by_cases o : bitP (σ 0 3) w
    · intro Q K
      obtain ⟨p, p1, p2, p3⟩ := R.1.1.2.1
      refine r_X_commit_0 X.1 X.2.1 C.A.1.1 X.2.2.2.1 C.kH (fun q => absurd q n0) (fun _ q => absurd q n8) (fun _ _ q => absurd ((op_x C).mpr o) q) (fun _ _ _ => ?_)
      refine C.push (fun h1 f1 C1 => ?_)
      refine r_X_commit_23 C1.X.1 C1.X.2.1 (s_X_finish C1.X C1.G C1.A (by omega) R.1.1.c1 (by omega) hw p1 p2 (fun γ => r_X_commit_32 ?_))
      obtain ⟨C1', f1'⟩ := C1.gr (γ := γ)
      obtain ⟨C2, f2⟩ := C1'.put (Z_cm (c := c) (i := w) (p := p) C.Z)
      have f := (f1.tr f1').tr f2
      refine K _ _ (fun Q2 K2 => ?_)
      have A2 := f.Mo A (by omega)
      have La2 := f.La La (by omega)
      rw [A2.put]
      refine r_M_commit_0 A2.1.1 A2.1.f1.1 A2.1.f1.2 (fun q => absurd q n0') (fun _ q => absurd q n8') (fun _ _ => mo_in hw) (fun _ _ q => absurd ((op_m A2.1 R.1.1 hw).mpr o) q) (fun _ _ _ => ?_)
      refine m_push A2.1 R (fun μ' e' R' => ?_)
      refine r_M_commit_16 A2.1.1 ?_
      refine m_commits A2.1 R'.1.1 (by omega) hw p1 p2 o (fun μ2 g0 R2 => r_M_commit_21 ?_)
      refine K2 _ (two_fin (c := cmC σ c w p) La2 C2 A2.1 ?_)
      exact R'.to R2 (by have := R.1.2; have := @cmC_le σ c w p; omega) (by omega) (g0 0 3 (by omega) (by omega) (by omega) (by omega)) (g0 0 5 (by omega) (by omega) (by omega) (by omega)) (fun k => g0 3 k (by omega) (by omega) (by omega) (by omega)) (fun k => g0 4 k (by omega) (by omega) (by omega) (by omega))
    · refine two_same I0 (.int (-(nI 20001))) (fun Q HQ => ?_) (fun Q HQ => ?_)
      · exact r_X_commit_0 X.1 X.2.1 C.A.1.1 X.2.2.2.1 C.kH (fun q => absurd q n0) (fun _ q => absurd q n8) (fun _ _ _ => HQ) (fun _ _ q => absurd ((op_x C).mp q) o)
      · rw [A.put] at HQ ⊢
        exact r_M_commit_0 A.1.1 A.1.f1.1 A.1.f1.2 (fun q => absurd q n0') (fun _ q => absurd q n8') (fun _ _ => mo_in hw) (fun _ _ _ => HQ) (fun _ _ q => absurd ((op_m A.1 R.1.1 hw).mp q) o)
