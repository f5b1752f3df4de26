/-! ===== pairs of calls: ifAllCommitted, type, clearText, undo ===== -/
def faS (σ : sn_V) (c p : Nat) : Nat → Nat × sn_V
  | 0 => (c, σ)
  | i + 1 => if bitP ((faS σ c p i).2 0 3) i then (cmC (faS σ c p i).2 (faS σ c p i).1 i p, cmS (faS σ c p i).2 (faS σ c p i).1 i p) else faS σ c p i
theorem faS_s {σ : sn_V} {c p i : Nat} : faS σ c p (i + 1) = if bitP ((faS σ c p i).2 0 3) i then (cmC (faS σ c p i).2 (faS σ c p i).1 i p, cmS (faS σ c p i).2 (faS σ c p i).1 i p) else faS σ c p i := rfl
theorem cm_00 {σ : sn_V} {c i p : Nat} : cmS σ c i p 0 0 = σ 0 0 := by
  unfold cmS
  split
  · unfold fRef fFree; rw [up_n (by omega), up_n (by omega)]
  · unfold fKeep
    rw [fKC_n (by omega) (by omega)]
    unfold fKeep1 fKeep0
    rw [cpV_n (by omega), up_n (by omega), up_n (by omega), up_n (by omega), up_n (by omega), up_n (by omega)]
theorem cm_01 {σ : sn_V} {c i p : Nat} (h : σ 0 1 = nI c) : cmS σ c i p 0 1 = nI (cmC σ c i p) := by
  unfold cmS cmC
  split
  · unfold fRef fFree; rw [up_n (by omega), up_n (by omega)]; exact h
  · unfold fKeep
    rw [fKC_n (by omega) (by omega)]
    unfold fKeep1 fKeep0
    rw [cpV_n (by omega), up_n (by omega), up_n (by omega), up_n (by omega), up_s, h, nI_s]
theorem fa_inv {σ : sn_V} {c p : Nat} (Z : StZ σ) (h0 : σ 0 0 = nI p) (h1 : σ 0 1 = nI c) : ∀ i, StZ (faS σ c p i).2 ∧ (faS σ c p i).2 0 0 = nI p ∧ (faS σ c p i).2 0 1 = nI (faS σ c p i).1 ∧ (faS σ c p i).1 ≤ c + i := by
  intro i
  induction i with
  | zero => exact ⟨Z, h0, h1, Nat.le_refl _⟩
  | succ i ih =>
    obtain ⟨a, b, d, e⟩ := ih
    rw [faS_s]
    split
    · refine ⟨Z_cm a, cm_00.trans b, cm_01 d, ?_⟩
      have := @cmC_le (faS σ c p i).2 (faS σ c p i).1 i p
      show cmC (faS σ c p i).2 (faS σ c p i).1 i p ≤ _
      omega
    · exact ⟨a, b, d, by omega⟩
theorem bi_add (k : Nat) (b : Bool) : nI k + bi b = nI (k + b01 b) := by
  cases b
  · exact add_n0 _
  · exact nI_s k
theorem s_X_ifAll {h : sn_H} {c p : Nat} {σ : sn_V} {s : Nat} {st : Nat → sn_V} {n : Nat} {tx : Nat → Nat} {Q : Option Value → sn_H → Prop} (C : CI h σ s st n tx) (hσ : σ 0 1 = nI c) (hc : c + 8 < 2 ^ 30) (h0 : σ 0 0 = nI p) (hp : p < 3)
    (H : ∀ h', frm 1 102 h h' → CI h' σ s st n tx → Q (some (.int (nI (smN (fun q => b01 (hdB (faS σ c p 8).2 q)) 3 0)))) h') : wpE 66 0 [some (.ref 1), none, none] [] h (0, 0) Q := by
  have X := C.X
  obtain ⟨φ0, p1, p2⟩ := C.F
  refine r_X_ifAllCommitted_0 X.1 X.2.2.1 X.2.1 p1.1.1 (s_S_copyFrom p1 C.A (by omega) p2 C.Z (r_X_ifAllCommitted_11 ?_))
  -- the constraints
  have held : ∀ (h' : sn_H), frm 1 102 h h' → CI h' σ s st n tx → StA h' 13 (faS σ c p 8).2 → ∀ r i, i + r = 3 → wpE 66 50 [some (.ref 1), some (.int (nI (smN (fun q => b01 (hdB (faS σ c p 8).2 q)) i 0))), some (.int (nI i))] [] h' (0, 0) Q := by
    intro h' f C' A' r
    induction r with
    | zero =>
      intro i hi
      have e : i = 3 := hi
      subst e
      exact r_X_ifAllCommitted_50 C'.X.1 C'.X.2.2.1 A'.1.1 A'.1.f7 (fun _ => H h' f C') (fun z => absurd (Int32.le_refl _) z)
    | succ r ih =>
      intro i hi
      have v := ih (i + 1) (by omega)
      rw [smN_last, Nat.zero_add] at v
      refine r_X_ifAllCommitted_50 C'.X.1 C'.X.2.2.1 A'.1.1 A'.1.f7 (fun z => absurd z (nI_ge (by omega) (by omega))) (fun _ => s_S_held A' (by omega) ?_)
      cases hb : hdB (faS σ c p 8).2 i with
      | true =>
        rw [hb] at v
        refine r_X_ifAllCommitted_71 (fun z => absurd z bi_t) (fun _ => ?_)
        rw [nI_s, nI_s]
        exact v
      | false =>
        rw [hb] at v
        refine r_X_ifAllCommitted_71 (fun _ => ?_) (fun z => absurd bi_f z)
        rw [nI_s]
        exact v
  suffices ∀ r i (h' : sn_H), i + r = 8 → frm 1 102 h h' → CI h' σ s st n tx → StA h' 13 (faS σ c p i).2 → wpE 66 13 [some (.ref 1), some (.int (nI i)), none] [] h' (0, 0) Q from
    this 8 0 _ (Nat.zero_add _) (C.fo C.Z).2 (C.fo C.Z).1 (hput_A p1.1)
  intro r
  induction r with
  | zero =>
    intro i h' hi f C' A'
    have e : i = 8 := hi
    subst e
    refine r_X_ifAllCommitted_13 C'.X.1 C'.X.2.2.1 A'.1.1 (fun _ => held h' f C' A' 3 0 (Nat.zero_add _)) (fun z => absurd (Int32.le_refl _) z) (fun z => absurd (Int32.le_refl _) z)
  | succ r ih =>
    intro i h' hi f C' A'
    obtain ⟨i1, i2, i3, i4⟩ := fa_inv C.Z h0 hσ i
    have g3 : hG h' 13 3 = (faS σ c p i).2 0 3 := A'.2 0 (by decide) 3
    refine r_X_ifAllCommitted_13 C'.X.1 C'.X.2.2.1 A'.1.1 (fun z => absurd z (nI_ge (by omega) (by omega))) (fun _ z => ?_) (fun _ z => ?_)
    · rw [g3] at z
      rw [nI_s]
      refine ih (i + 1) h' (by omega) f C' ?_
      rw [faS_s, if_neg z]
      exact A'
    · rw [g3] at z
      refine s_X_finish C'.X C'.G A' (by omega) i3 (by omega) (by omega) hp i2 (fun γ => r_X_ifAllCommitted_39 ?_)
      obtain ⟨C1, f1⟩ := C'.gr (γ := γ)
      obtain ⟨C2, f2⟩ := C1.fo (Z_cm (c := (faS σ c p i).1) (i := i) (p := p) i1)
      rw [nI_s]
      refine ih (i + 1) _ (by omega) ((f.tr f1).tr f2) C2 ?_
      rw [faS_s, if_pos z]
      exact hput_A A'.1
theorem two_ifAll {L : Nat} {scr : Nat → Int32} {B : Nat} {h : sn_H} (I : Inv B L scr h) (hB : B < 2 ^ 29) : Two L scr B 66 157 [some (.ref 1), none, none] [some (.ref 103), none, none] h := by
  obtain ⟨La, c, σ, s, st, n, tx, μ, C, A, R⟩ := I
  have hc : c < 2 ^ 29 := by have := R.1.2; omega
  obtain ⟨p, p1, p2, p3⟩ := R.1.1.2.1
  intro Q K
  refine s_X_ifAll C R.1.1.c1 (by omega) p2 p1 (fun h2 f C2 => ?_)
  refine K _ _ (fun Q2 K2 => ?_)
  have A2 := f.Mo A (by omega)
  have La2 := f.La La (by omega)
  have S := A2.1
  rw [A2.put]
  refine r_M_ifAllCommitted_0 S.1 S.f1.1 S.f2.1 (s_M_copies (x := 1) (y := 2) (by decide) (by decide) (by decide) S.f1.2 S.f2.2 (by omega) (by omega) (by decide) (by decide) (r_M_ifAllCommitted_13 ?_))
  have k1 : ∀ j k, j ≠ 2 → cpV μ 1 0 2 0 596 j k = μ j k := fun j k hj => cpV_n (fun z => hj z.1)
  have k2 : ∀ k, k < 596 → cpV μ 1 0 2 0 596 2 k = μ 1 k := fun k hk => by rw [cpV_y (by omega)]; exact congrArg (μ 1) (by omega)
  generalize cpV μ 1 0 2 0 596 = μ1 at k1 k2
  have e1 : μ1 1 = μ 1 := funext fun k => k1 1 k (by omega)
  -- the constraints
  have held : ∀ μ', (∀ j k, j ≠ 1 → j ≠ 5 → j ≠ 6 → ¬ (j = 0 ∧ k = 6) → μ' j k = μ1 j k) → Rel (faS σ c p 8).1 (faS σ c p 8).2 (μ' 1) → ∀ r i, i + r = 3 → wpE 157 45 [some (.ref 103), some (.int (nI (smN (fun q => b01 (hdB (faS σ c p 8).2 q)) i 0))), some (.int (nI i))] [] (mpt h2 103 μ') (0, 0) Q2 := by
    intro μ' g R' r
    induction r with
    | zero =>
      intro i hi
      have e : i = 3 := hi
      subst e
      refine r_M_ifAllCommitted_45 S.1 S.f2.1 S.f1.1 (fun _ => ?_) (fun z => absurd (Int32.le_refl _) z)
      refine s_M_copies (x := 2) (y := 1) (by decide) (by decide) (by decide) S.f2.2 S.f1.2 (by omega) (by omega) (by decide) (by decide) (r_M_ifAllCommitted_77 ?_)
      have q1 : ∀ j k, j ≠ 1 → cpV μ' 2 0 1 0 596 j k = μ' j k := fun j k hj => cpV_n (fun z => hj z.1)
      have q2 : ∀ k, k < 596 → cpV μ' 2 0 1 0 596 1 k = μ 1 k := fun k hk => by
        rw [cpV_y (by omega), g 2 _ (by omega) (by omega) (by omega) (by omega), show 0 + (k - 0) = k by omega]
        exact k2 k hk
      refine K2 _ (two_fin (c := c) La2 C2 S ?_)
      exact R.to (R.1.1.cg q2) (by have := R.1.2; omega) (by omega) (by rw [q1 0 3 (by omega), g 0 3 (by omega) (by omega) (by omega) (by omega), k1 0 3 (by omega)]) (by rw [q1 0 5 (by omega), g 0 5 (by omega) (by omega) (by omega) (by omega), k1 0 5 (by omega)]) (fun k => by rw [q1 3 k (by omega), g 3 k (by omega) (by omega) (by omega) (by omega), k1 3 k (by omega)]) (fun k => by rw [q1 4 k (by omega), g 4 k (by omega) (by omega) (by omega) (by omega), k1 4 k (by omega)])
    | succ r ih =>
      intro i hi
      have v := ih (i + 1) (by omega)
      rw [smN_last, Nat.zero_add] at v
      refine r_M_ifAllCommitted_45 S.1 S.f2.1 S.f1.1 (fun z => absurd z (nI_ge (by omega) (by omega))) (fun _ => s_M_held S R' (by omega) (r_M_ifAllCommitted_56 ?_))
      rw [bi_add, nI_s]
      exact v
  suffices ∀ r i (μ' : sn_V), i + r = 8 → (∀ j k, j ≠ 1 → j ≠ 5 → j ≠ 6 → ¬ (j = 0 ∧ k = 6) → μ' j k = μ1 j k) → Rel (faS σ c p i).1 (faS σ c p i).2 (μ' 1) → wpE 157 15 [some (.ref 103), some (.int (nI i)), none] [] (mpt h2 103 μ') (0, 0) Q2 from
    this 8 0 μ1 (Nat.zero_add _) (fun _ _ _ _ _ _ => rfl) (by rw [e1]; exact R.1.1)
  intro r
  induction r with
  | zero =>
    intro i μ' hi g R'
    have e : i = 8 := hi
    subst e
    have nn : ∀ {P : Prop}, ¬ nI 8 ≤ nI 8 → P := fun z => absurd (Int32.le_refl _) z
    exact r_M_ifAllCommitted_15 S.1 S.f1.1 S.f1.2 (fun _ => held μ' g R' 3 0 (Nat.zero_add _)) nn nn nn nn nn
  | succ r ih =>
    intro i μ' hi g R'
    obtain ⟨i1, i2, i3, i4⟩ := fa_inv C.Z p2 R.1.1.c1 i
    have hi8 : i < 8 := by omega
    refine r_M_ifAllCommitted_15 S.1 S.f1.1 S.f1.2 (fun z => absurd z (nI_ge (by omega) (by omega))) (fun _ q => absurd q (ar_n0' (by omega))) (fun _ _ q => absurd q (ar_nl' (by omega) (by omega))) (fun _ _ _ => mo_in hi8) (fun _ _ _ q => ?_) (fun _ _ _ q => ?_)
    · have q' : ¬ bitP ((faS σ c p i).2 0 3) i := fun z => q ((op_m S R' hi8).mpr z)
      rw [nI_s]
      refine ih (i + 1) μ' (by omega) g ?_
      rw [faS_s, if_neg q']
      exact R'
    · have q' := (op_m S R' hi8).mp q
      refine m_commits S R' (by omega) hi8 p1 i2 q' (fun μ2 g2 R2 => r_M_ifAllCommitted_34 ?_)
      rw [nI_s]
      refine ih (i + 1) μ2 (by omega) (fun j k a b d e => by rw [g2 j k a b d e]; exact g j k a b d e) ?_
      rw [faS_s, if_pos q']
      exact R2
/-- another text -/
theorem RI.text {B B' c : Nat} {σ : sn_V} {s : Nat} {st : Nat → sn_V} {n n' : Nat} {tx tx' : Nat → Nat} {μ μ' : sn_V} (R : RI B c σ s st n tx μ) (hB : B ≤ B') (g : ∀ j k, j ≠ 4 → ¬ (j = 0 ∧ k = 5) → μ' j k = μ j k) (hn : n' ≤ 80) (g5 : μ' 0 5 = nI n') (gt : ∀ i, i < n' → μ' 4 i = nI (tx' i) ∧ 33 ≤ tx' i ∧ tx' i ≤ 126) : RI B' c σ s st n' tx' μ' := by
  obtain ⟨⟨r1, r2⟩, ⟨r3, r4⟩, r5, _, _⟩ := R
  have e1 : μ' 1 = μ 1 := funext fun k => g 1 k (by omega) (by omega)
  refine ⟨⟨by rw [e1]; exact r1, by omega⟩, ⟨r3, by rw [g 0 3 (by omega) (by omega)]; exact r4⟩, fun k hk => ?_, ⟨hn, g5⟩, gt⟩
  obtain ⟨c', a, b⟩ := r5 k hk
  exact ⟨c', by omega, b.cg (fun j _ => g 3 _ (by omega) (by omega))⟩
theorem CI.text {h h' : sn_H} {σ : sn_V} {s : Nat} {st : Nat → sn_V} {n n' : Nat} {tx tx' : Nat → Nat} (C : CI h σ s st n tx) (f : frm 101 102 h h') (g1 : hG h' 101 1 = nI n') (gt : ∀ i, i < n' → hG h' 102 i = nI (tx' i)) : CI h' σ s st n' tx' := by
  obtain ⟨φ, p1, p2⟩ := C.F
  obtain ⟨x, q⟩ := C.H
  obtain ⟨t1, t2, t3, _, _⟩ := C.T
  exact C.by f ⟨f.A C.A (by omega), C.Z⟩ ⟨φ, f.A p1 (by omega), p2⟩ ⟨x, q.fr f (by omega)⟩ ⟨(f.K _).trans t1, (f.R _ _).trans t2, (f.K _).trans t3, g1, gt⟩
theorem chr_id : ∀ j, j < 127 → vp_nar .char (((nI j).toUInt32 % 65536).toInt32) = nI j := by decide +kernel
theorem two_type {L : Nat} {scr : Nat → Int32} {B : Nat} {v : Int32} {h : sn_H} (I : Inv B L scr h) : Two L scr B 68 159 [some (.ref 1), some (.int v)] [some (.ref 103), some (.int v)] h := by
  have I0 := I
  obtain ⟨La, c, σ, s, st, n, tx, μ, C, A, R⟩ := I
  have X := C.X
  obtain ⟨t1, t2, t3, t4, t5⟩ := C.T
  obtain ⟨n80, m5⟩ := R.2.2.2.1
  have rt := R.2.2.2.2
  have e5 : hG h 103 5 = nI n := A.g0.trans m5
  by_cases ok : ¬ v < nI 33 ∧ ¬ nI 126 < v
  · obtain ⟨o1, o2⟩ := ok
    have o3 := Int32.not_lt.mp o2
    obtain ⟨j, hj, rfl⟩ := nI_of (x := v) (fun z => o1 (Int32.lt_trans z (by decide)))
    have j1 : 33 ≤ j := by rw [nI_ltI (by omega) (by omega)] at o1; omega
    have j2 : j ≤ 126 := by rw [nI_ltI (by omega) (by omega)] at o2; omega
    by_cases full : n = 80
    · subst full
      refine two_same I0 (.int (-(nI 20004))) (fun Q HQ => ?_) (fun Q HQ => ?_)
      · refine r_X_type_0 X.1 X.2.2.2.2.2 t1 t2 t3 (fun q => absurd q o1) (fun _ _ q => ?_) (fun _ _ q => ?_) (fun _ _ q => ?_) (fun _ _ _ => HQ) (fun _ q => absurd o3 q)
        all_goals
          rw [t4] at q
          exact absurd q (nI_nlt (Nat.le_refl _) (by omega))
      · exact r_M_type_0 A.1.1 A.1.f4.1 A.1.f4.2 (fun q => absurd q o1) (fun _ q => absurd q o2) (fun _ _ q => absurd e5 q) (fun _ _ q => absurd e5 q) (fun _ _ _ => HQ)
    · have n79 : n < 80 := by omega
      intro Q K
      have ec := chr_id j (by omega)
      refine r_X_type_0 X.1 X.2.2.2.2.2 t1 t2 t3 (fun q => absurd q o1) (fun _ _ _ q => ?_) (fun _ _ _ _ => ?_) (fun _ _ _ _ => ?_) (fun _ _ q => ?_) (fun _ q => absurd o3 q)
      · rw [t4] at q; exact absurd q (nI_ge n79 (by omega))
      · rw [t4]; exact inb n79
      · have eg : hG (setG h 102 n (nI j)) 101 1 = nI n := (setG_n (by omega)).trans t4
        rw [t4, ec, cl (by omega : n < 2 ^ 31), setG_s, eg, nI_s]
        have f : frm 101 102 h (setG (setG h 102 n (nI j)) 101 1 (nI (n + 1))) := (frm_set.wi (by omega) (by omega)).tr (frm_set.wi (by omega) (by omega))
        have C2 := C.text (n' := n + 1) (tx' := fun i => if i = n then j else tx i) f setG_s (fun i hi => by
          rw [setG_n (by omega)]
          by_cases q : i = n
          · rw [q, setG_s, if_pos rfl]
          · rw [setG_n (by omega), if_neg q]; exact t5 i (by omega))
        have f' := f.wi (lo' := 1) (hi' := 102) (by omega) (by omega)
        refine K _ _ (fun Q2 K2 => ?_)
        have A2 := f'.Mo A (by omega)
        have La2 := f'.La La (by omega)
        rw [A2.put]
        have m5' : hG (mpt (setG (setG h 102 n (nI j)) 101 1 (nI (n + 1))) 103 μ) 103 5 = nI n := by rw [mpt_get0]; exact m5
        refine r_M_type_0 A2.1.1 A2.1.f4.1 A2.1.f4.2 (fun q => absurd q o1) (fun _ q => absurd q o2) (fun _ _ _ => by rw [m5']; exact inb n79) (fun _ _ _ => ?_) (fun _ _ q => ?_)
        · rw [m5', cl (by omega : n < 2 ^ 31), mpt_set (by decide), mpt_get0, up_n (by omega), m5, nI_s, mpt_set0, mpt_get0, up_s]
          refine K2 _ (two_fin (c := c) La2 C2 A2.1 (R.text (by omega) (fun a b a4 ab => by rw [up_n ab, up_n (by omega)]) (by omega) up_s (fun i hi => ?_)))
          rw [up_n (by omega)]
          by_cases q : i = n
          · rw [q, up_s, if_pos rfl]; exact ⟨rfl, j1, j2⟩
          · rw [up_n (by omega), if_neg q]; exact rt i (by omega)
        · rw [m5'] at q; exact absurd ((nI_eq (by omega) (by omega)).mp q) full
      · rw [t4] at q; exact absurd (nI_lt n79 (by omega)) q
  · refine two_same I0 (.int (-(nI 20002))) (fun Q HQ => ?_) (fun Q HQ => ?_)
    · exact r_X_type_0 X.1 X.2.2.2.2.2 t1 t2 t3 (fun _ => HQ) (fun a b => absurd ⟨a, Int32.not_lt.mpr b⟩ ok) (fun a b => absurd ⟨a, Int32.not_lt.mpr b⟩ ok) (fun a b => absurd ⟨a, Int32.not_lt.mpr b⟩ ok) (fun a b => absurd ⟨a, Int32.not_lt.mpr b⟩ ok) (fun _ _ => HQ)
    · exact r_M_type_0 A.1.1 A.1.f4.1 A.1.f4.2 (fun _ => HQ) (fun _ _ => HQ) (fun a b => absurd ⟨a, b⟩ ok) (fun a b => absurd ⟨a, b⟩ ok) (fun a b => absurd ⟨a, b⟩ ok)
theorem two_clearText {L : Nat} {scr : Nat → Int32} {B : Nat} {h : sn_H} (I : Inv B L scr h) : Two L scr B 70 160 [some (.ref 1), none] [some (.ref 103), none] h := by
  obtain ⟨La, c, σ, s, st, n, tx, μ, C, A, R⟩ := I
  have X := C.X
  obtain ⟨t1, t2, t3, t4, t5⟩ := C.T
  obtain ⟨n80, m5⟩ := R.2.2.2.1
  intro Q K
  refine r_X_clearText_0 X.1 X.2.2.2.2.2 t1 ?_
  rw [t4]
  have f : frm 101 102 h (setG h 101 1 (nI 0)) := frm_set.wi (by omega) (by omega)
  have C2 := C.text (n' := 0) (tx' := tx) f setG_s (fun i hi => absurd hi (Nat.not_lt_zero i))
  have f' := f.wi (lo' := 1) (hi' := 102) (by omega) (by omega)
  refine K _ _ (fun Q2 K2 => ?_)
  have A2 := f'.Mo A (by omega)
  have La2 := f'.La La (by omega)
  rw [A2.put]
  refine r_M_clearText_0 A2.1.1 ?_
  rw [mpt_get0, m5, mpt_set0]
  exact K2 _ (two_fin (c := c) La2 C2 A2.1 (R.text (by omega) (fun a b _ ab => up_n ab) (by omega) up_s (fun i hi => absurd hi (Nat.not_lt_zero i))))
theorem two_undo {L : Nat} {scr : Nat → Int32} {B : Nat} {h : sn_H} (I : Inv B L scr h) : Two L scr B 86 172 [some (.ref 1)] [some (.ref 103)] h := by
  have I0 := I
  obtain ⟨La, c, σ, s, st, n, tx, μ, C, A, R⟩ := I
  have X := C.X
  obtain ⟨x, q⟩ := C.H
  obtain ⟨φ, p1, p2⟩ := C.F
  have g1 : hG h 24 1 = nI s := q.2.1.1
  have s6 := R.2.1.1
  by_cases s0 : s = 0
  · refine two_same I0 (.int (-(nI 20003))) (fun Q HQ => ?_) (fun Q HQ => ?_)
    · have z : hG h 24 1 = 0 := by rw [g1, s0, nI_0]
      exact r_X_undo_0 X.1 X.2.2.2.1 C.kH X.2.1 (fun y => absurd z y) (fun _ => HQ)
    · rw [A.put] at HQ ⊢
      exact s_M_undo A.1 s6 R.2.1.2 (fun _ => HQ) (fun y => absurd y (by omega))
  · intro Q K
    refine r_X_undo_0 X.1 X.2.2.2.1 C.kH X.2.1 (fun _ => ?_) (fun z => ?_)
    · refine s_H_popInto q C.A C.Z (by omega) (by omega) (fun h1 f1 HI A1 => ?_)
      have f2 : frm 2 12 h1 (hput h1 2 (st (s - 1))) := frm_put
      have f : frm 1 102 h (hput h1 2 (st (s - 1))) := (f1.wi (by omega) (by omega)).tr (f2.wi (by omega) (by omega))
      have Z1 := (q.2.2.1 (s - 1) (by omega)).2
      have C2 : CI (hput h1 2 (st (s - 1))) (st (s - 1)) (s - 1) st n tx := C.by f ⟨A1, Z1⟩ ⟨φ, f2.A (f1.A p1 (by omega)) (by omega), p2⟩ ⟨_, HI⟩ (f2.Sc (f1.Sc C.T (by omega)) (by omega))
      refine r_X_undo_25 C2.X.1 C2.X.2.2.2.1 C2.kH ?_
      have e1 : hG (hput h1 2 (st (s - 1))) 24 1 = nI (s - 1) := HI.2.1.1
      rw [e1]
      refine K _ _ (fun Q2 K2 => ?_)
      have A2 := f.Mo A (by omega)
      have La2 := f.La La (by omega)
      rw [A2.put]
      refine s_M_undo A2.1 s6 R.2.1.2 (fun y => absurd y s0) (fun _ μ' g0 g3 g4 => ?_)
      obtain ⟨⟨r1, r2⟩, ⟨r3, r4⟩, r5, ⟨r6, r7⟩, r8⟩ := R
      obtain ⟨c', b1, b2⟩ := r5 (s - 1) (by omega)
      refine K2 _ (two_fin (c := c') La2 C2 A2.1 ⟨⟨b2.cg (fun j hj => g4 j hj), by omega⟩, ⟨by omega, g3⟩, fun k hk => ?_, ⟨r6, by rw [g0 0 5 (by omega) (by omega)]; exact r7⟩, fun i hi => by rw [g0 4 i (by omega) (by omega)]; exact r8 i hi⟩)
      obtain ⟨c'', d1, d2⟩ := r5 k (by omega)
      exact ⟨c'', by omega, d2.cg (fun j _ => g0 3 _ (by omega) (by omega))⟩
    · rw [g1, ← nI_0] at z
      exact absurd ((nI_eq (by omega) (by omega)).mp z) s0
