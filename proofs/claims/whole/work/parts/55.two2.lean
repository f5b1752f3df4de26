/-! ===== pairs of calls: read, write, value, version, count ===== -/
theorem ar_ex {v : Int32} {n : Nat} (hn : n < 2 ^ 31) (h1 : ¬ v < 0) (h2 : ¬ nI n ≤ v) : ∃ j, j < n ∧ v = nI j := by
  rcases pk_ix v hn with z | z | z
  · exact absurd z h1
  · exact absurd z h2
  · exact z
theorem ar_ex' {v : Int32} {n : Nat} (hn : n + 1 < 2 ^ 31) (h1 : ¬ v < nI 0) (h2 : ¬ nI n < v) : ∃ j, j < n + 1 ∧ v = nI j :=
  ar_ex hn (by rw [← nI_0]; exact h1) (fun z => h2 ((ar_hi hn).mp z))
theorem s_X_errorOfRead {h : sn_H} {σ : sn_V} {s : Nat} {st : Nat → sn_V} {n : Nat} {tx : Nat → Nat} {v x : Int32} {Q : Option Value → sn_H → Prop} (C : CI h σ s st n tx) (H1 : ∀ w k, w < 8 → k < 12 → v = nI w → x = nI k → bitP (σ 0 3) w → Q (some (.int (nI 0))) h) (H2 : (¬ ∃ w k, w < 8 ∧ k < 12 ∧ v = nI w ∧ x = nI k ∧ bitP (σ 0 3) w) → Q (some (.int (-(nI 20001)))) h) :
    wpE 17 0 [some (.ref 1), some (.int v), some (.int x)] [] h (0, 0) Q := by
  by_cases ok : ∃ w k, w < 8 ∧ k < 12 ∧ v = nI w ∧ x = nI k ∧ bitP (σ 0 3) w
  · obtain ⟨w, k, hw, hk, rfl, rfl, o⟩ := ok
    exact r_X_errorOfRead_0 C.X.1 C.X.2.1 C.A.1.1 (fun q => absurd q (ar_n0 (by omega))) (fun _ q => absurd q (ar_nl hk (by omega))) (fun _ _ q => absurd q (ar_n0 (by omega))) (fun _ _ _ q => absurd q (ar_nl hw (by omega))) (fun _ _ _ _ q => absurd ((op_x C).mpr o) q) (fun _ _ _ _ _ => H1 w k hw hk rfl rfl o)
  · have H := H2 ok
    refine r_X_errorOfRead_0 C.X.1 C.X.2.1 C.A.1.1 (fun _ => H) (fun _ _ => H) (fun _ _ _ => H) (fun _ _ _ _ => H) (fun _ _ _ _ _ => H) (fun a b d e f => ?_)
    obtain ⟨k, hk, rfl⟩ := ar_ex (by omega) a b
    obtain ⟨w, hw, rfl⟩ := ar_ex (by omega) d e
    exact absurd ⟨w, k, hw, hk, rfl, rfl, (op_x C).mp f⟩ ok
theorem s_M_whyNotRead {h : sn_H} {c : Nat} {σ μ : sn_V} {v x : Int32} {Q : Option Value → sn_H → Prop} (S : MoS h 103) (R : Rel c σ (μ 1)) (H1 : ∀ w k, w < 8 → k < 12 → v = nI w → x = nI k → bitP (σ 0 3) w → Q (some (.int (nI 0))) (mpt h 103 μ)) (H2 : (¬ ∃ w k, w < 8 ∧ k < 12 ∧ v = nI w ∧ x = nI k ∧ bitP (σ 0 3) w) → Q (some (.int (-(nI 20001)))) (mpt h 103 μ)) :
    wpE 106 0 [some (.ref 103), some (.int v), some (.int x)] [] (mpt h 103 μ) (0, 0) Q := by
  by_cases ok : ∃ w k, w < 8 ∧ k < 12 ∧ v = nI w ∧ x = nI k ∧ bitP (σ 0 3) w
  · obtain ⟨w, k, hw, hk, rfl, rfl, o⟩ := ok
    exact r_M_whyNotRead_0 S.1 S.f1.1 S.f1.2 (fun q => absurd q (ar_n0' (by omega))) (fun _ q => absurd q (ar_nl' (by omega) (by omega))) (fun _ _ => mo_in hw) (fun _ _ q => absurd ((op_m S R hw).mpr o) q) (fun _ _ _ q => absurd q (ar_n0' (by omega))) (fun _ _ _ _ q => absurd q (ar_nl' (by omega) (by omega))) (fun _ _ _ _ _ => H1 w k hw hk rfl rfl o)
  · have H := H2 ok
    refine r_M_whyNotRead_0 S.1 S.f1.1 S.f1.2 (fun _ => H) (fun _ _ => H) (fun a b => ?_) (fun _ _ _ => H) (fun _ _ _ _ => H) (fun _ _ _ _ _ => H) (fun a b d e f => ?_)
    · obtain ⟨w, hw, rfl⟩ := ar_ex' (by omega) a b
      exact mo_in hw
    · obtain ⟨w, hw, rfl⟩ := ar_ex' (by omega) a b
      obtain ⟨k, hk, rfl⟩ := ar_ex' (by omega) e f
      exact absurd ⟨w, k, hw, hk, rfl, rfl, (op_m S R hw).mp d⟩ ok
theorem two_read {L : Nat} {scr : Nat → Int32} {B : Nat} {v x : Int32} {h : sn_H} (I : Inv B L scr h) : Two L scr B 16 105 [some (.ref 1), some (.int v), some (.int x), none] [some (.ref 103), some (.int v), some (.int x), none] h := by
  have I0 := I
  obtain ⟨La, c, σ, s, st, n, tx, μ, C, A, R⟩ := I
  have X := C.X
  by_cases ok : ∃ w k, w < 8 ∧ k < 12 ∧ v = nI w ∧ x = nI k ∧ bitP (σ 0 3) w
  · obtain ⟨w, k, hw, hk, rfl, rfl, o⟩ := ok
    intro Q K
    refine r_X_read_0 X.1 (s_X_errorOfRead C (fun _ _ _ _ _ _ _ => ?_) (fun q => absurd ⟨w, k, hw, hk, rfl, rfl, o⟩ q))
    refine r_X_read_6 X.1 X.2.2.2.1 X.2.1 C.kH (fun _ => ?_) (fun q => absurd nI_0 q)
    refine C.push (fun h1 f1 C1 => ?_)
    obtain ⟨⟨_, _, t2, _⟩, _, s3⟩ := (R.1.1.slot hw).2 o
    refine r_X_read_24 C1.X.1 C1.X.2.1 C1.A.1.1 (s_S_readKey C1.A hw hk (fun q => r_X_read_33 ?_) (fun q => r_X_read_33 ?_))
    · obtain ⟨C2, f2⟩ := C1.put (Z_read (i := w) (k := k) C.Z hw)
      have f := f1.tr f2
      refine K _ _ (fun Q2 K2 => ?_)
      have A2 := f.Mo A (by omega)
      have La2 := f.La La (by omega)
      rw [A2.put]
      refine r_M_read_0 A2.1.1 (s_M_whyNotRead A2.1 R.1.1 (fun _ _ _ _ _ _ _ => ?_) (fun q => absurd ⟨w, k, hw, hk, rfl, rfl, o⟩ q))
      refine r_M_read_6 A2.1.1 (fun _ => ?_) (fun q => absurd (nI_pos' (by omega)) q)
      refine m_push A2.1 R (fun μ' e' R' => ?_)
      refine r_M_read_17 A2.1.1 ?_
      rw [show mpt (hput h1 2 (fRead σ w k)) 103 μ' = mpt (hput h1 2 (fRead σ w k)) 103 (wA μ' (μ' 1)) by rw [wA_self]]
      refine s_M_reads A2.1 hw hk (fun q2 => ?_) (fun q2 => r_M_read_23 ?_)
      · rw [e', t2] at q2; exact absurd q2 q
      · rw [e', ← if_neg (c := bitP (σ 8 w) k) (t := μ 1 (36 + 40 * w + 27 + k)) (e := μ 1 (36 + 40 * w + 15 + k)) q, ← s3 k hk, ← e']
        refine K2 _ (two_fin (c := c) La2 C2 A2.1 ?_)
        exact R'.to (by rw [wA_1]; exact rl_read R'.1.1 hw o) (by have := R.1.2; omega) (by omega) (wA_n (by omega)) (wA_n (by omega)) (fun k => wA_n (by omega)) (fun k => wA_n (by omega))
    · refine K _ _ (fun Q2 K2 => ?_)
      have A2 := f1.Mo A (by omega)
      have La2 := f1.La La (by omega)
      rw [A2.put]
      refine r_M_read_0 A2.1.1 (s_M_whyNotRead A2.1 R.1.1 (fun _ _ _ _ _ _ _ => ?_) (fun q => absurd ⟨w, k, hw, hk, rfl, rfl, o⟩ q))
      refine r_M_read_6 A2.1.1 (fun _ => ?_) (fun q => absurd (nI_pos' (by omega)) q)
      refine m_push A2.1 R (fun μ' e' R' => ?_)
      refine r_M_read_17 A2.1.1 ?_
      rw [show mpt h1 103 μ' = mpt h1 103 (wA μ' (μ' 1)) by rw [wA_self]]
      refine s_M_reads A2.1 hw hk (fun q2 => r_M_read_23 ?_) (fun q2 => ?_)
      · rw [wA_self, e', ← if_pos (c := bitP (σ 8 w) k) (t := μ 1 (36 + 40 * w + 27 + k)) (e := μ 1 (36 + 40 * w + 15 + k)) q, ← s3 k hk]
        exact K2 _ (two_fin (c := c) La2 C1 A2.1 (R'.mono (by omega)))
      · rw [e', t2] at q2; exact absurd q q2
  · refine two_same I0 (.int (-(nI 20001))) (fun Q HQ => ?_) (fun Q HQ => ?_)
    · refine r_X_read_0 X.1 (s_X_errorOfRead C (fun w k a b d e f => absurd ⟨w, k, a, b, d, e, f⟩ ok) (fun _ => ?_))
      exact r_X_read_6 X.1 X.2.2.2.1 X.2.1 C.kH (fun q => absurd q (m1_n0 _ (by omega) (by omega))) (fun _ => HQ)
    · rw [A.put] at HQ ⊢
      refine r_M_read_0 A.1.1 (s_M_whyNotRead A.1 R.1.1 (fun w k a b d e f => absurd ⟨w, k, a, b, d, e, f⟩ ok) (fun _ => ?_))
      exact r_M_read_6 A.1.1 (fun q => absurd q m1_neg.1) (fun _ => HQ)
theorem s_X_errorOfWrite {h : sn_H} {σ : sn_V} {s : Nat} {st : Nat → sn_V} {n : Nat} {tx : Nat → Nat} {v x y : Int32} {Q : Option Value → sn_H → Prop} (C : CI h σ s st n tx) (H1 : ∀ w k, w < 8 → k < 12 → v = nI w → x = nI k → bitP (σ 0 3) w → ¬ y < -(nI 999) → ¬ nI 999 < y → Q (some (.int (nI 0))) h)
    (H2 : (¬ ∃ w k, w < 8 ∧ k < 12 ∧ v = nI w ∧ x = nI k ∧ bitP (σ 0 3) w) → Q (some (.int (-(nI 20001)))) h) (H3 : (∃ w k, w < 8 ∧ k < 12 ∧ v = nI w ∧ x = nI k ∧ bitP (σ 0 3) w) → ¬ (¬ y < -(nI 999) ∧ ¬ nI 999 < y) → Q (some (.int (-(nI 20002)))) h) :
    wpE 22 0 [some (.ref 1), some (.int v), some (.int x), some (.int y), none] [] h (0, 0) Q := by
  refine r_X_errorOfWrite_0 C.X.1 (s_X_errorOfRead C (fun w k a b d e f => ?_) (fun q => ?_))
  · refine r_X_errorOfWrite_6 (fun _ z => H3 ⟨w, k, a, b, d, e, f⟩ (fun g => g.1 z)) (fun _ z z2 => H1 w k a b d e f z (Int32.not_lt.mpr z2)) (fun _ _ z => H3 ⟨w, k, a, b, d, e, f⟩ (fun g => z (Int32.not_lt.mp g.2))) (fun z => absurd nI_0 z)
  · have n0 := m1_n0 20001 (by omega) (by omega)
    exact r_X_errorOfWrite_6 (fun z => absurd z n0) (fun z => absurd z n0) (fun z => absurd z n0) (fun _ => H2 q)
theorem s_M_whyNotWritten {h : sn_H} {c : Nat} {σ μ : sn_V} {v x y : Int32} {Q : Option Value → sn_H → Prop} (S : MoS h 103) (R : Rel c σ (μ 1)) (H1 : ∀ w k, w < 8 → k < 12 → v = nI w → x = nI k → bitP (σ 0 3) w → ¬ y < -(nI 999) → ¬ nI 999 < y → Q (some (.int (nI 0))) (mpt h 103 μ))
    (H2 : (¬ ∃ w k, w < 8 ∧ k < 12 ∧ v = nI w ∧ x = nI k ∧ bitP (σ 0 3) w) → Q (some (.int (-(nI 20001)))) (mpt h 103 μ)) (H3 : (∃ w k, w < 8 ∧ k < 12 ∧ v = nI w ∧ x = nI k ∧ bitP (σ 0 3) w) → ¬ (¬ y < -(nI 999) ∧ ¬ nI 999 < y) → Q (some (.int (-(nI 20002)))) (mpt h 103 μ)) :
    wpE 110 0 [some (.ref 103), some (.int v), some (.int x), some (.int y)] [] (mpt h 103 μ) (0, 0) Q := by
  by_cases ok : ∃ w k, w < 8 ∧ k < 12 ∧ v = nI w ∧ x = nI k ∧ bitP (σ 0 3) w
  · have H3' := H3 ok
    obtain ⟨w, k, hw, hk, rfl, rfl, o⟩ := ok
    exact r_M_whyNotWritten_0 S.1 S.f1.1 S.f1.2 (fun q => absurd q (ar_n0' (by omega))) (fun _ q => absurd q (ar_nl' (by omega) (by omega))) (fun _ _ => mo_in hw) (fun _ _ q => absurd ((op_m S R hw).mpr o) q) (fun _ _ _ q => absurd q (ar_n0' (by omega))) (fun _ _ _ _ q => absurd q (ar_nl' (by omega) (by omega)))
      (fun _ _ _ _ _ q => H3' (fun g => g.1 q)) (fun _ _ _ _ _ _ q => H3' (fun g => g.2 q)) (fun _ _ _ _ _ q q2 => H1 w k hw hk rfl rfl o q q2)
  · have H := H2 ok
    refine r_M_whyNotWritten_0 S.1 S.f1.1 S.f1.2 (fun _ => H) (fun _ _ => H) (fun a b => ?_) (fun _ _ _ => H) (fun _ _ _ _ => H) (fun _ _ _ _ _ => H) (fun a b d e f _ => ?_) (fun a b d e f _ _ => ?_) (fun a b d e f _ _ => ?_)
    · obtain ⟨w, hw, rfl⟩ := ar_ex' (by omega) a b
      exact mo_in hw
    all_goals
      obtain ⟨w, hw, rfl⟩ := ar_ex' (by omega) a b
      obtain ⟨k, hk, rfl⟩ := ar_ex' (by omega) e f
      exact absurd ⟨w, k, hw, hk, rfl, rfl, (op_m S R hw).mp d⟩ ok
theorem two_write {L : Nat} {scr : Nat → Int32} {B : Nat} {v x y : Int32} {h : sn_H} (I : Inv B L scr h) : Two L scr B 21 109 [some (.ref 1), some (.int v), some (.int x), some (.int y), none] [some (.ref 103), some (.int v), some (.int x), some (.int y), none] h := by
  have I0 := I
  obtain ⟨La, c, σ, s, st, n, tx, μ, C, A, R⟩ := I
  have X := C.X
  by_cases ok : ∃ w k, w < 8 ∧ k < 12 ∧ v = nI w ∧ x = nI k ∧ bitP (σ 0 3) w
  · by_cases oy : ¬ y < -(nI 999) ∧ ¬ nI 999 < y
    · have ok' := ok
      obtain ⟨w, k, hw, hk, rfl, rfl, o⟩ := ok
      intro Q K
      refine r_X_write_0 X.1 (s_X_errorOfWrite C (fun _ _ _ _ _ _ _ _ _ => ?_) (fun q => absurd ok' q) (fun _ q => absurd oy q))
      refine r_X_write_7 X.1 X.2.2.2.1 X.2.1 C.kH (fun _ => ?_) (fun q => absurd nI_0 q)
      refine C.push (fun h1 f1 C1 => ?_)
      refine r_X_write_28 C1.X.1 C1.X.2.1 C1.A.1.1 (s_S_writeKey C1.A hw hk (r_X_write_38 ?_))
      obtain ⟨C2, f2⟩ := C1.put (Z_write (v := y) C.Z hw hk)
      have f := f1.tr f2
      refine K _ _ (fun Q2 K2 => ?_)
      have A2 := f.Mo A (by omega)
      have La2 := f.La La (by omega)
      rw [A2.put]
      refine r_M_write_0 A2.1.1 (s_M_whyNotWritten A2.1 R.1.1 (fun _ _ _ _ _ _ _ _ _ => ?_) (fun q => absurd ok' q) (fun _ q => absurd oy q))
      refine r_M_write_7 A2.1.1 (fun _ => ?_) (fun q => absurd (nI_pos' (by omega)) q)
      refine m_push A2.1 R (fun μ' e' R' => ?_)
      refine r_M_write_21 A2.1.1 ?_
      rw [show mpt (hput h1 2 (fWrite σ w k y)) 103 μ' = mpt (hput h1 2 (fWrite σ w k y)) 103 (wA μ' (μ' 1)) by rw [wA_self]]
      refine s_M_writes A2.1 hw hk (r_M_write_28 ?_)
      obtain ⟨⟨_, _, t2, _⟩, ⟨z, z1, z2⟩, _⟩ := (R'.1.1.slot hw).2 o
      have g8 : fWrite σ w k y 8 w = μ' 1 (36 + 40 * w + 2) ||| (nI 1 <<< (nI k &&& 31)) := by unfold fWrite; rw [up_n (by omega), up_s, t2]
      obtain ⟨z', z1', z2'⟩ := m_put (K := 12) (k := k) (by omega) z1 hk
      have eb : bcI (fWrite σ w k y 8 w) = onesI (μ' 1 (36 + 40 * w + 2) ||| (nI 1 <<< (nI k &&& 31))) 12 := by rw [g8, t2, z2, z2']; exact bc_ones z' z1'
      rw [← eb]
      refine K2 _ (two_fin (c := c) La2 C2 A2.1 ?_)
      exact R'.to (by rw [wA_1]; exact rl_write R'.1.1 hw hk o) (by have := R.1.2; omega) (by omega) (wA_n (by omega)) (wA_n (by omega)) (fun k => wA_n (by omega)) (fun k => wA_n (by omega))
    · refine two_same I0 (.int (-(nI 20002))) (fun Q HQ => ?_) (fun Q HQ => ?_)
      · refine r_X_write_0 X.1 (s_X_errorOfWrite C (fun w k a b d e f g g2 => absurd ⟨g, g2⟩ oy) (fun q => absurd ok q) (fun _ _ => ?_))
        exact r_X_write_7 X.1 X.2.2.2.1 X.2.1 C.kH (fun q => absurd q (m1_n0 _ (by omega) (by omega))) (fun _ => HQ)
      · rw [A.put] at HQ ⊢
        refine r_M_write_0 A.1.1 (s_M_whyNotWritten A.1 R.1.1 (fun w k a b d e f g g2 => absurd ⟨g, g2⟩ oy) (fun q => absurd ok q) (fun _ _ => ?_))
        exact r_M_write_7 A.1.1 (fun q => absurd q m1_neg.2.1) (fun _ => HQ)
  · refine two_same I0 (.int (-(nI 20001))) (fun Q HQ => ?_) (fun Q HQ => ?_)
    · refine r_X_write_0 X.1 (s_X_errorOfWrite C (fun w k a b d e f _ _ => absurd ⟨w, k, a, b, d, e, f⟩ ok) (fun _ => ?_) (fun q => absurd q ok))
      exact r_X_write_7 X.1 X.2.2.2.1 X.2.1 C.kH (fun q => absurd q (m1_n0 _ (by omega) (by omega))) (fun _ => HQ)
    · rw [A.put] at HQ ⊢
      refine r_M_write_0 A.1.1 (s_M_whyNotWritten A.1 R.1.1 (fun w k a b d e f _ _ => absurd ⟨w, k, a, b, d, e, f⟩ ok) (fun _ => ?_) (fun q => absurd q ok))
      exact r_M_write_7 A.1.1 (fun q => absurd q m1_neg.1) (fun _ => HQ)
theorem two_value {L : Nat} {scr : Nat → Int32} {B : Nat} {v : Int32} {h : sn_H} (I : Inv B L scr h) : Two L scr B 47 138 [some (.ref 1), some (.int v)] [some (.ref 103), some (.int v)] h := by
  have I0 := I
  obtain ⟨La, c, σ, s, st, n, tx, μ, C, A, R⟩ := I
  have X := C.X
  have S := C.A.1
  by_cases ok : ∃ k, k < 12 ∧ v = nI k
  · obtain ⟨k, hk, rfl⟩ := ok
    refine two_same I0 (.int (σ 4 k)) (fun Q HQ => ?_) (fun Q HQ => ?_)
    · refine r_X_value_0 X.1 X.2.1 S.1 S.f7 S.k4 (fun q => absurd q (ar_n0 (by omega))) (fun _ q => absurd q (ar_nl hk (by omega))) (fun _ _ => inb hk) (fun _ _ => ?_)
      rw [cl (by omega : k < 2 ^ 31), C.A.2 4 (by decide) k]
      exact HQ
    · refine r_M_value_0 A.1.1 A.1.f1.1 A.1.f1.2 (fun q => absurd q (ar_n0' (by omega))) (fun _ q => absurd q (ar_nl' (by omega) (by omega))) (fun _ _ => by rw [nI_add]; exact inb (by omega)) (fun _ _ => ?_)
      rw [nI_add 12 k, cl (by omega : 12 + k < 2 ^ 31), A.g 1 (by decide), (R.1.1.2.2.2.2.2.1 k hk).1]
      exact HQ
  · refine two_same I0 (.int (-(nI 20001))) (fun Q HQ => ?_) (fun Q HQ => ?_)
    · exact r_X_value_0 X.1 X.2.1 S.1 S.f7 S.k4 (fun _ => HQ) (fun _ _ => HQ) (fun a b => absurd (ar_ex (by omega) a b) ok) (fun a b => absurd (ar_ex (by omega) a b) ok)
    · exact r_M_value_0 A.1.1 A.1.f1.1 A.1.f1.2 (fun _ => HQ) (fun _ _ => HQ) (fun a b => absurd (ar_ex' (by omega) a b) ok) (fun a b => absurd (ar_ex' (by omega) a b) ok)
theorem two_version {L : Nat} {scr : Nat → Int32} {B : Nat} {v : Int32} {h : sn_H} (I : Inv B L scr h) : Two L scr B 48 139 [some (.ref 1), some (.int v)] [some (.ref 103), some (.int v)] h := by
  have I0 := I
  obtain ⟨La, c, σ, s, st, n, tx, μ, C, A, R⟩ := I
  have X := C.X
  have S := C.A.1
  by_cases ok : ∃ k, k < 12 ∧ v = nI k
  · obtain ⟨k, hk, rfl⟩ := ok
    refine two_same I0 (.int (σ 5 k)) (fun Q HQ => ?_) (fun Q HQ => ?_)
    · refine r_X_version_0 X.1 X.2.1 S.1 S.f8 S.k5 (fun q => absurd q (ar_n0 (by omega))) (fun _ q => absurd q (ar_nl hk (by omega))) (fun _ _ => inb hk) (fun _ _ => ?_)
      rw [cl (by omega : k < 2 ^ 31), C.A.2 5 (by decide) k]
      exact HQ
    · refine r_M_version_0 A.1.1 A.1.f1.1 A.1.f1.2 (fun q => absurd q (ar_n0' (by omega))) (fun _ q => absurd q (ar_nl' (by omega) (by omega))) (fun _ _ => by rw [nI_add]; exact inb (by omega)) (fun _ _ => ?_)
      rw [nI_add 24 k, cl (by omega : 24 + k < 2 ^ 31), A.g 1 (by decide), (R.1.1.2.2.2.2.2.1 k hk).2]
      exact HQ
  · refine two_same I0 (.int (-(nI 20001))) (fun Q HQ => ?_) (fun Q HQ => ?_)
    · exact r_X_version_0 X.1 X.2.1 S.1 S.f8 S.k5 (fun _ => HQ) (fun _ _ => HQ) (fun a b => absurd (ar_ex (by omega) a b) ok) (fun a b => absurd (ar_ex (by omega) a b) ok)
    · exact r_M_version_0 A.1.1 A.1.f1.1 A.1.f1.2 (fun _ => HQ) (fun _ _ => HQ) (fun a b => absurd (ar_ex' (by omega) a b) ok) (fun a b => absurd (ar_ex' (by omega) a b) ok)
/-- what count tells -/
def cnV (σ : sn_V) (c j : Nat) : Int32 := match j with
  | 0 => nI c
  | 1 => bcI (σ 0 3)
  | 2 => σ 0 0
  | 3 => nI (min 16 c)
  | 4 => σ 1 1
  | 5 => σ 1 2
  | 6 => σ 1 3
  | _ => σ 0 2
theorem s_X_count {h : sn_H} {c : Nat} {σ : sn_V} {s : Nat} {st : Nat → sn_V} {n : Nat} {tx : Nat → Nat} {j : Nat} {Q : Option Value → sn_H → Prop} (C : CI h σ s st n tx) (hσ : σ 0 1 = nI c) (hc : c < 2 ^ 30) (hj : j < 8) (H : Q (some (.int (cnV σ c j))) h) : wpE 46 0 [some (.ref 1), some (.int (nI j))] [] h (0, 0) Q := by
  have X := C.X
  have S := C.A.1
  have g1 : hG h 2 1 = nI c := (C.g0 1).trans hσ
  have gr : ∀ k, k < 8 → hG h (2 + 1) (nI k).toNatClampNeg = σ 1 k := fun k hk => by rw [cl (by omega : k < 2 ^ 31)]; exact C.A.2 1 (by decide) k
  have e : j = 0 ∨ j = 1 ∨ j = 2 ∨ j = 3 ∨ j = 4 ∨ j = 5 ∨ j = 6 ∨ j = 7 := by omega
  rcases e with rfl | rfl | rfl | rfl | rfl | rfl | rfl | rfl <;> refine r_X_count_0 X.1 X.2.1 S.1 S.f4 S.k1 ?_ ?_ ?_ ?_ (fun _ => inb (by omega)) ?_ (fun _ => inb (by omega)) ?_ (fun _ => inb (by omega)) ?_ ?_ ?_ <;> intro z <;> first | exact absurd z (by decide) | skip
  · rw [g1]; exact H
  · rw [C.g0]; exact s_I_bitCount (r_X_count_66 H)
  · rw [C.g0]; exact H
  · rw [g1, min16 hc]; exact H
  · rw [gr 1 (by omega)]; exact H
  · rw [gr 2 (by omega)]; exact H
  · rw [gr 3 (by omega)]; exact H
  · rw [C.g0]; exact H
set_option maxRecDepth 100000 in
theorem bc_open : ∀ w, w < 256 → bcI (nI w) = nI (smN (fun i => b01 (decide (bitP (nI w) i))) 8 0) := by decide +kernel
theorem s_M_openMany {h : sn_H} {c : Nat} {σ μ : sn_V} {Q : Option Value → sn_H → Prop} (S : MoS h 103) (R : Rel c σ (μ 1)) (H : Q (some (.int (bcI (σ 0 3)))) (mpt h 103 μ)) : wpE 137 0 [some (.ref 103), none, none] [] (mpt h 103 μ) (0, 0) Q := by
  obtain ⟨w, w1, w2⟩ := R.2.2.2.2.2.2.1
  rw [w2, bc_open w w1, ← w2] at H
  refine r_M_openMany_0 ?_
  suffices ∀ (r i : Nat), i + r = 8 → wpE 137 4 [some (.ref 103), some (.int (nI (smN (fun i => b01 (decide (bitP (σ 0 3) i))) i 0))), some (.int (nI i))] [] (mpt h 103 μ) (0, 0) Q from this 8 0 (Nat.zero_add _)
  intro r
  induction r with
  | zero =>
    intro i hi
    have e : i = 8 := hi
    subst e
    have nn : ∀ {P : Prop}, ¬ nI 8 ≤ nI 8 → P := fun z => absurd (Int32.le_refl _) z
    exact r_M_openMany_4 S.1 S.f1.1 S.f1.2 (fun _ => H) nn nn nn nn nn
  | succ r ih =>
    intro i hi
    have v := ih (i + 1) (by omega)
    rw [smN_last, Nat.zero_add] at v
    refine r_M_openMany_4 S.1 S.f1.1 S.f1.2 (fun z => absurd z (nI_ge (by omega) (by omega))) (fun _ q => absurd q (ar_n0' (by omega))) (fun _ _ q => absurd q (ar_nl' (by omega) (by omega))) (fun _ _ _ => mo_in (by omega)) (fun _ _ _ q => ?_) (fun _ _ _ q => ?_)
    · rw [decide_eq_false (fun z => q ((op_m S R (by omega)).mpr z))] at v
      rw [add_n0, nI_s]
      exact v
    · rw [decide_eq_true ((op_m S R (by omega)).mp q)] at v
      rw [nI_s, nI_s]
      exact v
theorem s_M_countOf {h : sn_H} {c j : Nat} {σ μ : sn_V} {Q : Option Value → sn_H → Prop} (S : MoS h 103) (R : Rel c σ (μ 1)) (hc : c < 2 ^ 30) (hj : j < 8) (H : Q (some (.int (cnV σ c j))) (mpt h 103 μ)) : wpE 136 0 [some (.ref 103), some (.int (nI j))] [] (mpt h 103 μ) (0, 0) Q := by
  have G : ∀ i, i < 596 → hG (mpt h 103 μ) (103 + 1) (nI i).toNatClampNeg = μ 1 i := fun i hi => by rw [cl (by omega), mpt_get (by decide)]
  obtain ⟨p, p1, p2, p3⟩ := R.2.1
  have r3 := R.2.2.1
  have r4 := R.2.2.2.1
  have ix : ∀ k, 4 ≤ k → nI 2 + nI k - nI 4 = nI (2 + k - 4) := fun k hk => by rw [nI_add, pk_sub (by omega)]
  have e : j = 0 ∨ j = 1 ∨ j = 2 ∨ j = 3 ∨ j = 4 ∨ j = 5 ∨ j = 6 ∨ j = 7 := by omega
  rcases e with rfl | rfl | rfl | rfl | rfl | rfl | rfl | rfl <;> refine r_M_countOf_0 S.1 S.f1.1 S.f1.2 (fun _ => inb (by omega)) ?_ ?_ (fun _ => inb (by omega)) ?_ ?_ ?_ ?_ <;> intro z <;> first | exact absurd z (by decide) | skip
  · rw [G 0 (by omega), R.c2]; exact H
  · exact s_M_openMany S R (r_M_countOf_43 H)
  · rw [G 1 (by omega), p3, ← p2]; exact H
  · exact s_M_keptMany (mpt_A S) hc R.c2 (r_M_countOf_55 H)
  · rw [ix 4 (by omega)]; exact inb (by omega)
  · rw [ix 4 (by omega), G _ (by omega)]
    have := r3 0 (by omega)
    rw [this]; exact H
  · rw [ix 5 (by omega)]; exact inb (by omega)
  · rw [ix 5 (by omega), G _ (by omega)]
    have := r3 1 (by omega)
    rw [this]; exact H
  · rw [ix 6 (by omega)]; exact inb (by omega)
  · rw [ix 6 (by omega), G _ (by omega)]
    have := r3 2 (by omega)
    rw [this]; exact H
  · rw [ix 7 (by omega)]; exact inb (by omega)
  · rw [ix 7 (by omega), G _ (by omega), r4]; exact H
theorem two_count {L : Nat} {scr : Nat → Int32} {B : Nat} {v : Int32} {h : sn_H} (I : Inv B L scr h) (hB : B < 2 ^ 29) : Two L scr B 46 135 [some (.ref 1), some (.int v)] [some (.ref 103), some (.int v)] h := by
  have I0 := I
  obtain ⟨La, c, σ, s, st, n, tx, μ, C, A, R⟩ := I
  have X := C.X
  have S := C.A.1
  have hc : c < 2 ^ 30 := by have := R.1.2; omega
  by_cases ok : ∃ k, k < 8 ∧ v = nI k
  · obtain ⟨k, hk, rfl⟩ := ok
    refine two_same I0 (.int (cnV σ c k)) (fun Q HQ => s_X_count C R.1.1.c1 hc hk HQ) (fun Q HQ => ?_)
    rw [A.put] at HQ ⊢
    exact r_M_count_0 A.1.1 (fun q => absurd q (ar_n0' (by omega))) (fun _ q => absurd q (ar_nl' (by omega) (by omega))) (fun _ _ => s_M_countOf A.1 R.1.1 hc hk (r_M_count_15 HQ))
  · have bad : v.toInt < 0 ∨ 7 < v.toInt := by
      rcases pk_ix v (n := 8) (by omega) with z | z | z
      · rw [Int32.lt_iff_toInt_lt] at z; exact Or.inl z
      · rw [Int32.le_iff_toInt_le, nI_toInt (by omega)] at z; exact Or.inr (by omega)
      · exact absurd z ok
    refine two_same I0 (.int (-(nI 20002))) (fun Q HQ => ?_) (fun Q HQ => ?_)
    · refine r_X_count_0 X.1 X.2.1 S.1 S.f4 S.k1 ?_ ?_ ?_ ?_ (fun _ => inb (by omega)) ?_ (fun _ => inb (by omega)) ?_ (fun _ => inb (by omega)) ?_ ?_ (fun _ => HQ) <;> intro z <;> exfalso <;> omega
    · exact r_M_count_0 A.1.1 (fun _ => HQ) (fun _ _ => HQ) (fun a b => absurd (ar_ex' (by omega) a b) ok)
