/-! ===== carryOut: a step on both sides ===== -/
theorem exS_b {σ : sn_V} {c pol n p : Nat} {tx : Nat → Nat} (l : tx p = 98) : exS σ c pol tx n p = if bitP (σ 0 3) (tx (p + 1) - 48) then none else some (c, fStart σ (tx (p + 1) - 48)) := if_pos l
theorem exS_r {σ : sn_V} {c pol n p : Nat} {tx : Nat → Nat} (l : tx p = 114) : exS σ c pol tx n p = if bitP (σ 0 3) (tx (p + 1) - 48) then some (c, if bitP (σ 8 (tx (p + 1) - 48)) (tx (p + 2) - 97) then σ else fRead σ (tx (p + 1) - 48) (tx (p + 2) - 97)) else none := by
  unfold exS
  rw [if_neg (by omega), if_pos l]
theorem exS_w {σ : sn_V} {c pol n p : Nat} {tx : Nat → Nat} (l : tx p = 119) : exS σ c pol tx n p = if bitP (σ 0 3) (tx (p + 1) - 48) ∧ ¬ vlV tx n p < -(nI 999) ∧ ¬ nI 999 < vlV tx n p then some (c, fWrite σ (tx (p + 1) - 48) (tx (p + 2) - 97) (vlV tx n p)) else none := by
  unfold exS
  rw [if_neg (by omega), if_neg (by omega), if_pos l]
theorem exS_c {σ : sn_V} {c pol n p : Nat} {tx : Nat → Nat} (l : tx p = 99) : exS σ c pol tx n p = if bitP (σ 0 3) (tx (p + 1) - 48) then some (cmC σ c (tx (p + 1) - 48) pol, cmS σ c (tx (p + 1) - 48) pol) else none := by
  unfold exS
  rw [if_neg (by omega), if_neg (by omega), if_neg (by omega), if_pos l]
theorem exS_a {σ : sn_V} {c pol n p : Nat} {tx : Nat → Nat} (l : tx p = 97) : exS σ c pol tx n p = if bitP (σ 0 3) (tx (p + 1) - 48) then some (c, fGive σ (tx (p + 1) - 48)) else none := by
  unfold exS
  rw [if_neg (by omega), if_neg (by omega), if_neg (by omega), if_neg (by omega)]
theorem s_X_access {h : sn_H} {c pol n p : Nat} {σ : sn_V} {s : Nat} {st : Nat → sn_V} {tx : Nat → Nat} {Q : Option Value → sn_H → Prop} (C : CI h σ s st n tx) (hn : n ≤ 80) (ht : ∀ i, i < n → tx i < 127) (T : StpT tx n p) (hp : p < n) (l : tx p = 114 ∨ tx p = 119)
    (H1 : ∀ c' σ', exS σ c pol tx n p = some (c', σ') → ∀ h', frm 1 102 h h' → CI h' σ' s st n tx → Q (some (.int (nI 1))) h') (H2 : exS σ c pol tx n p = none → Q (some (.int (nI 0))) h) :
    wpE 82 0 [some (.ref 1), some (.int (nI p)), some (.int (nI (tx p))), some (.int (nI (tx (p + 1) - 48))), none, none] [] h (0, 0) Q := by
  have X := C.X
  obtain ⟨t1, t2, t3, t4, t5⟩ := C.T
  obtain ⟨_, ⟨s0, s1, s2⟩, tk, tv⟩ := T
  obtain ⟨k0, k1, k2⟩ := tk l
  have hw : tx (p + 1) - 48 < 8 := by omega
  have hk : tx (p + 2) - 97 < 12 := by omega
  have h127 := ht p hp
  have g2 : hG h 102 (nI (p + 2)).toNatClampNeg = nI (tx (p + 2)) := by rw [cl (by omega)]; exact t5 _ k0
  have a2 : nI p + nI 2 = nI (p + 2) := nI_add p 2
  refine r_X_carryOutAccess_0 X.1 X.2.2.2.2.2 t1 (r_T_keyOfStep_0 t1 t2 t3 (fun z => ?_) (fun _ z => ?_) (fun _ _ => by rw [a2]; exact inb (by omega)) (fun _ _ => ?_) (fun _ _ => by rw [a2, g2]; exact nar_ch _ (by omega)))
  · rw [a2] at z; exact absurd z (ar_n0 (by omega))
  · rw [t4, a2] at z; exact absurd z (nI_ge k0 (by omega))
  rw [a2, g2, pk_sub (by omega)]
  refine r_X_carryOutAccess_8 X.1 X.2.2.2.2.2 t1 (fun z => ?_) (fun z => ?_)
  · have l9 : tx p = 119 := l.resolve_left (fun y => z (by rw [y]))
    refine s_T_value C.T hn ht (tv l9) (r_X_carryOutAccess_49 X.1 ?_)
    rw [exS_w l9] at H1 H2
    refine s_X_errorOfWrite C (fun w' k' a b e f o y1 y2 => ?_) (fun y => ?_) (fun y y2 => ?_)
    · have ew : tx (p + 1) - 48 = w' := (nI_eq (by omega) (by omega)).mp e
      rw [← ew] at o
      have hh := H1 c _ (if_pos ⟨o, y1, y2⟩)
      refine r_X_carryOutAccess_60 X.1 X.2.1 C.A.1.1 (fun _ => ?_) (fun q => absurd nI_0 q)
      refine s_S_writeKey C.A hw hk (r_X_carryOutAccess_77 ?_)
      obtain ⟨C2, f2⟩ := C.put (Z_write (v := vlV tx n p) C.Z hw hk)
      exact hh _ f2 C2
    · have no : ¬ bitP (σ 0 3) (tx (p + 1) - 48) := fun o => y ⟨_, _, hw, hk, rfl, rfl, o⟩
      exact r_X_carryOutAccess_60 X.1 X.2.1 C.A.1.1 (fun q => absurd q (m1_n0 _ (by omega) (by omega))) (fun _ => H2 (if_neg (fun q => no q.1)))
    · exact r_X_carryOutAccess_60 X.1 X.2.1 C.A.1.1 (fun q => absurd q (m1_n0 _ (by omega) (by omega))) (fun _ => H2 (if_neg (fun q => y2 q.2)))
  · have l4 : tx p = 114 := (nI_eq (by omega) (by omega)).mp z
    rw [exS_r l4] at H1 H2
    refine s_X_errorOfRead C (fun w' k' a b e f o => ?_) (fun y => ?_)
    · have ew : tx (p + 1) - 48 = w' := (nI_eq (by omega) (by omega)).mp e
      rw [← ew] at o
      have hh := H1 c _ (if_pos o)
      refine r_X_carryOutAccess_23 X.1 X.2.1 C.A.1.1 (fun _ => ?_) (fun q => absurd nI_0 q)
      refine s_S_readKey C.A hw hk (fun q => r_X_carryOutAccess_38 ?_) (fun q => r_X_carryOutAccess_38 ?_)
      · rw [if_neg q] at hh
        obtain ⟨C2, f2⟩ := C.put (Z_read (i := tx (p + 1) - 48) (k := tx (p + 2) - 97) C.Z hw)
        exact hh _ f2 C2
      · rw [if_pos q] at hh
        exact hh _ frm.rfl' C
    · have no : ¬ bitP (σ 0 3) (tx (p + 1) - 48) := fun o => y ⟨_, _, hw, hk, rfl, rfl, o⟩
      exact r_X_carryOutAccess_23 X.1 X.2.1 C.A.1.1 (fun q => absurd q (m1_n0 _ (by omega) (by omega))) (fun _ => H2 (if_neg no))
theorem s_X_step {h : sn_H} {c pol n p : Nat} {σ : sn_V} {s : Nat} {st : Nat → sn_V} {tx : Nat → Nat} {Q : Option Value → sn_H → Prop} (C : CI h σ s st n tx) (hn : n ≤ 80) (ht : ∀ i, i < n → tx i < 127) (hσ : σ 0 1 = nI c) (hc : c < 2 ^ 30) (h0 : σ 0 0 = nI pol) (hpol : pol < 3) (T : StpT tx n p) (hp : p < n)
    (H1 : ∀ c' σ', exS σ c pol tx n p = some (c', σ') → ∀ h', frm 1 102 h h' → CI h' σ' s st n tx → Q (some (.int (nI 1))) h') (H2 : exS σ c pol tx n p = none → Q (some (.int (nI 0))) h) :
    wpE 80 0 [some (.ref 1), some (.int (nI p)), none, none] [] h (0, 0) Q := by
  have X := C.X
  obtain ⟨t1, t2, t3, t4, t5⟩ := C.T
  have T' := T
  obtain ⟨tl, ⟨s0, s1, s2⟩, tk, tv⟩ := T
  unfold EndL at tl
  have hw : tx (p + 1) - 48 < 8 := by omega
  have h127 := ht p hp
  have g0 : hG h 102 (nI p).toNatClampNeg = nI (tx p) := by rw [cl (by omega)]; exact t5 _ hp
  have g1 : hG h 102 (nI (p + 1)).toNatClampNeg = nI (tx (p + 1)) := by rw [cl (by omega)]; exact t5 _ s0
  refine r_X_carryOutStep_0 X.1 X.2.2.2.2.2 t1 t2 t3 (fun z => absurd z (ar_n0 (by omega))) (fun _ z => ?_) (fun _ _ => inb (by omega)) (fun _ _ => ?_) (fun _ _ => by rw [g0]; exact nar_ch _ h127)
  · rw [t4] at z; exact absurd z (nI_ge hp (by omega))
  rw [g0]
  refine r_T_slotOfStep_0 t1 t2 t3 (fun z => ?_) (fun _ z => ?_) (fun _ _ => by rw [nI_s]; exact inb (by omega)) (fun _ _ => ?_) (fun _ _ => by rw [nI_s, g1]; exact nar_ch _ (by omega))
  · rw [nI_s] at z; exact absurd z (ar_n0 (by omega))
  · rw [t4, nI_s] at z; exact absurd z (nI_ge s0 (by omega))
  rw [nI_s, g1, pk_sub (by omega)]
  have eL : ∀ x, x < 127 → (nI (tx p) = nI x ↔ tx p = x) := fun x hx => nI_eq (by omega) (by omega)
  have n0 := ar_n0 (w := tx (p + 1) - 48) (by omega)
  have n8 := ar_nl (w := tx (p + 1) - 48) (n := 8) (by omega) (by omega)
  refine r_X_carryOutStep_17 X.1 X.2.1 C.A.1.1 (fun _ z => ?_) (fun _ _ _ z => absurd z n0) (fun _ _ _ _ z => absurd z n8) (fun z1 z2 z3 _ _ z => ?_) (fun z1 z2 z3 _ _ z z4 => ?_) (fun z1 z2 z3 _ _ z z4 => ?_) (fun _ _ z => ?_) (fun z => ?_)
  · rw [eL 114 (by omega)] at z
    exact s_X_access C hn ht T' hp (Or.inl z) (fun c' σ' e h' f C' => r_X_carryOutStep_64 (H1 c' σ' e h' f C') (by decide)) (fun e => r_X_carryOutStep_64 (H2 e) (by decide))
  · rw [eL 98 (by omega)] at z1
    rw [eL 114 (by omega)] at z2
    rw [eL 119 (by omega)] at z3
    have no : ¬ bitP (σ 0 3) (tx (p + 1) - 48) := fun o => z ((op_x C).mpr o)
    by_cases l : tx p = 99
    · exact H2 (by rw [exS_c l]; exact if_neg no)
    · exact H2 (by rw [exS_a (by omega)]; exact if_neg no)
  · rw [eL 98 (by omega)] at z1
    rw [eL 114 (by omega)] at z2
    rw [eL 119 (by omega)] at z3
    rw [eL 99 (by omega)] at z4
    have o := (op_x C).mp z
    refine s_S_giveUp C.A hw (r_X_carryOutStep_102 ?_)
    obtain ⟨C2, f2⟩ := C.put (Z_give (i := tx (p + 1) - 48) C.Z)
    exact H1 c _ (by rw [exS_a (by omega)]; exact if_pos o) _ f2 C2
  · rw [eL 99 (by omega)] at z4
    have o := (op_x C).mp z
    refine s_X_finish X C.G C.A (by omega) hσ hc hw hpol h0 (fun γ => r_X_carryOutStep_90 ?_)
    obtain ⟨C1, f1⟩ := C.gr (γ := γ)
    obtain ⟨C2, f2⟩ := C1.put (Z_cm (c := c) (i := tx (p + 1) - 48) (p := pol) C.Z)
    exact H1 _ _ (by rw [exS_c z4]; exact if_pos o) _ (f1.tr f2) C2
  · rw [eL 119 (by omega)] at z
    exact s_X_access C hn ht T' hp (Or.inr z) (fun c' σ' e h' f C' => r_X_carryOutStep_64 (H1 c' σ' e h' f C') (by decide)) (fun e => r_X_carryOutStep_64 (H2 e) (by decide))
  · rw [eL 98 (by omega)] at z
    refine s_X_errorOfBegin C hw (fun o => ?_) (fun o => ?_)
    · refine r_X_carryOutStep_29 X.1 X.2.1 C.A.1.1 (fun _ => ?_) (fun q => absurd nI_0 q)
      refine s_S_start C.A hw (r_X_carryOutStep_42 ?_)
      obtain ⟨C2, f2⟩ := C.put (Z_start C.Z hw)
      exact H1 c _ (by rw [exS_b z]; exact if_neg o) _ f2 C2
    · exact r_X_carryOutStep_29 X.1 X.2.1 C.A.1.1 (fun q => absurd q (m1_n0 _ (by omega) (by omega))) (fun _ => H2 (by rw [exS_b z]; exact if_pos o))
theorem s_M_whyNotDone {h : sn_H} {c pol n p : Nat} {σ μ : sn_V} {tx : Nat → Nat} {Q : Option Value → sn_H → Prop} (S : MoS h 103) (R : Rel c σ (μ 1)) (T : StpT tx n p) (ht : ∀ i, i < n → tx i < 127) (hp : p < n) (I : StpIn tx n p μ)
    (H1 : (∃ r, exS σ c pol tx n p = some r) → Q (some (.int (nI 0))) (mpt h 103 μ)) (H2 : exS σ c pol tx n p = none → ∀ v : Int32, ¬ v = 0 → Q (some (.int v)) (mpt h 103 μ)) : wpE 170 0 [some (.ref 103)] [] (mpt h 103 μ) (0, 0) Q := by
  obtain ⟨⟨i12, il⟩, ⟨_, s1, s2, i13⟩, ik, iv⟩ := I
  have h127 := ht p hp
  have hw : tx (p + 1) - 48 < 8 := by omega
  have e12 : (hG (mpt h 103 μ) 103 12).toInt = (tx p : Int) := by rw [mpt_get0, i12, nI_toInt (by omega)]
  have e13 : hG (mpt h 103 μ) 103 13 = nI (tx (p + 1) - 48) := by rw [mpt_get0]; exact i13
  have m1 := m1_n0 20001 (by omega) (by omega)
  have m2 := m1_n0 20002 (by omega) (by omega)
  have m3 := m1_n0 20003 (by omega) (by omega)
  refine r_M_whyNotDone_0 S.1 S.f1.1 S.f1.2 (fun z => ?_) (fun _ z => ?_) (fun _ _ z => ?_) (fun _ _ _ z => ?_) (fun _ _ _ _ z => ?_) (fun _ _ _ _ _ => by rw [e13]; exact mo_in hw) (fun z1 z2 z3 _ _ z => ?_) (fun z1 z2 z3 _ _ z => ?_)
  · have l : tx p = 98 := by rw [e12] at z; omega
    rw [exS_b l] at H1 H2
    rw [e13]
    exact s_M_whyNotBegun S R hw (fun o => r_M_whyNotDone_48 (H1 ⟨_, if_neg o⟩)) (fun o => r_M_whyNotDone_48 (H2 (if_pos o) _ m3))
  · have l : tx p = 114 := by rw [e12] at z; omega
    obtain ⟨_, k1, k2, i14⟩ := ik (Or.inl l)
    have e14 : hG (mpt h 103 μ) 103 14 = nI (tx (p + 2) - 97) := by rw [mpt_get0]; exact i14
    rw [exS_r l] at H1 H2
    rw [e13, e14]
    refine s_M_whyNotRead S R (fun w' k' a b e f o => r_M_whyNotDone_61 ?_) (fun y => r_M_whyNotDone_61 ?_)
    · have ew : tx (p + 1) - 48 = w' := (nI_eq (by omega) (by omega)).mp e
      rw [← ew] at o
      exact H1 ⟨_, if_pos o⟩
    · exact H2 (if_neg (fun o => y ⟨_, _, hw, by omega, rfl, rfl, o⟩)) _ m1
  · have l : tx p = 119 := by rw [e12] at z; omega
    obtain ⟨_, k1, k2, i14⟩ := ik (Or.inr l)
    have e14 : hG (mpt h 103 μ) 103 14 = nI (tx (p + 2) - 97) := by rw [mpt_get0]; exact i14
    have e15 : hG (mpt h 103 μ) 103 15 = vlV tx n p := by rw [mpt_get0]; exact (iv l).2
    rw [exS_w l] at H1 H2
    rw [e13, e14, e15]
    refine s_M_whyNotWritten S R (fun w' k' a b e f o y1 y2 => r_M_whyNotDone_78 ?_) (fun y => r_M_whyNotDone_78 ?_) (fun y y2 => r_M_whyNotDone_78 ?_)
    · have ew : tx (p + 1) - 48 = w' := (nI_eq (by omega) (by omega)).mp e
      rw [← ew] at o
      exact H1 ⟨_, if_pos ⟨o, y1, y2⟩⟩
    · exact H2 (if_neg (fun o => y ⟨_, _, hw, by omega, rfl, rfl, o.1⟩)) _ m1
    · exact H2 (if_neg (fun o => y2 o.2)) _ m2
  · rw [e13] at z; exact absurd z (ar_n0' (by omega))
  · rw [e13] at z; exact absurd z (ar_nl' (by omega) (by omega))
  · rw [e12] at z1 z2 z3
    rw [e13] at z
    have no : ¬ bitP (σ 0 3) (tx (p + 1) - 48) := fun o => z ((op_m S R hw).mpr o)
    by_cases l : tx p = 99
    · exact H2 (by rw [exS_c l]; exact if_neg no) _ m1
    · exact H2 (by rw [exS_a (by omega)]; exact if_neg no) _ m1
  · rw [e12] at z1 z2 z3
    rw [e13] at z
    have o := (op_m S R hw).mp z
    by_cases l : tx p = 99
    · exact H1 ⟨_, by rw [exS_c l]; exact if_pos o⟩
    · exact H1 ⟨_, by rw [exS_a (by omega)]; exact if_pos o⟩
theorem s_M_does {h : sn_H} {c c' pol n p : Nat} {σ σ' μ : sn_V} {tx : Nat → Nat} {Q : Option Value → sn_H → Prop} (S : MoS h 103) (R : Rel c σ (μ 1)) (hc : c + 1 < 2 ^ 30) (h0 : σ 0 0 = nI pol) (hpol : pol < 3) (T : StpT tx n p) (ht : ∀ i, i < n → tx i < 127) (hp : p < n) (I : StpIn tx n p μ) (ex : exS σ c pol tx n p = some (c', σ'))
    (H : ∀ μ', (∀ j k, j ≠ 1 → j ≠ 5 → j ≠ 6 → ¬ (j = 0 ∧ k = 6) → μ' j k = μ j k) → Rel c' σ' (μ' 1) → Q none (mpt h 103 μ')) : wpE 171 0 [some (.ref 103)] [] (mpt h 103 μ) (0, 0) Q := by
  obtain ⟨⟨i12, il⟩, ⟨_, s1, s2, i13⟩, ik, iv⟩ := I
  have h127 := ht p hp
  have hw : tx (p + 1) - 48 < 8 := by omega
  have e12 : (hG (mpt h 103 μ) 103 12).toInt = (tx p : Int) := by rw [mpt_get0, i12, nI_toInt (by omega)]
  have e13 : hG (mpt h 103 μ) 103 13 = nI (tx (p + 1) - 48) := by rw [mpt_get0]; exact i13
  have ew : mpt h 103 μ = mpt h 103 (wA μ (μ 1)) := by rw [wA_self]
  refine r_M_does_0 S.1 (fun z => ?_) (fun _ z => ?_) (fun _ _ z => ?_) (fun _ _ _ z => ?_) (fun z1 z2 z3 z4 => ?_)
  · have l : tx p = 98 := by rw [e12] at z; omega
    rw [exS_b l] at ex
    rw [e13, ew]
    split at ex
    · cases ex
    · cases ex
      refine s_M_begins S hw (fun a' g0 g1 g2 g3 g4 g5 g6 => r_M_does_56 ?_)
      exact H (wA μ a') (fun j k q _ _ _ => wA_n q) (by rw [wA_1]; exact rl_begin R hw g0 g1 g2 g3 g4 g5 g6)
  · have l : tx p = 99 := by rw [e12] at z; omega
    rw [exS_c l] at ex
    rw [e13]
    split at ex
    · rename_i o
      cases ex
      exact m_commits S R hc hw hpol h0 o (fun μ' g R' => r_M_does_104 (H μ' g R'))
    · cases ex
  · have l : tx p = 114 := by rw [e12] at z; omega
    obtain ⟨_, k1, k2, i14⟩ := ik (Or.inl l)
    have e14 : hG (mpt h 103 μ) 103 14 = nI (tx (p + 2) - 97) := by rw [mpt_get0]; exact i14
    rw [exS_r l] at ex
    rw [e13, e14, ew]
    split at ex
    · rename_i o
      cases ex
      obtain ⟨⟨_, _, t2, _⟩, _⟩ := (R.slot hw).2 o
      refine s_M_reads S hw (by omega) (fun q => r_M_does_72 ?_) (fun q => r_M_does_72 ?_)
      · rw [t2] at q
        rw [wA_self]
        exact H μ (fun _ _ _ _ _ _ => rfl) (by rw [if_pos q]; exact R)
      · rw [t2] at q
        exact H _ (fun j k q _ _ _ => wA_n q) (by rw [wA_1, if_neg q]; exact rl_read R hw o)
    · cases ex
  · have l : tx p = 119 := by rw [e12] at z; omega
    obtain ⟨_, k1, k2, i14⟩ := ik (Or.inr l)
    have e14 : hG (mpt h 103 μ) 103 14 = nI (tx (p + 2) - 97) := by rw [mpt_get0]; exact i14
    have e15 : hG (mpt h 103 μ) 103 15 = vlV tx n p := by rw [mpt_get0]; exact (iv l).2
    rw [exS_w l] at ex
    rw [e13, e14, e15, ew]
    split at ex
    · rename_i o
      cases ex
      refine s_M_writes S hw (by omega) (r_M_does_92 ?_)
      exact H _ (fun j k q _ _ _ => wA_n q) (by rw [wA_1]; exact rl_write R hw (by omega) o.1)
    · cases ex
  · rw [e12] at z1 z2 z3 z4
    have l : tx p = 97 := by omega
    rw [exS_a l] at ex
    rw [e13, ew]
    split at ex
    · cases ex
      refine s_M_aborts S hw (fun a' g0 g1 g2 => r_M_does_116 ?_)
      exact H (wA μ a') (fun j k q _ _ _ => wA_n q) (by rw [wA_1]; exact rl_abort R hw g0 g1 g2)
    · cases ex
/-- the whole of carryOut: how many steps, and the state then -/
def exL (pol : Nat) (tx : Nat → Nat) (n : Nat) : Nat → Nat → Nat → Nat → sn_V → Nat × Nat × sn_V
  | 0, _, d, c, σ => (d, c, σ)
  | r + 1, p, d, c, σ => if p < n then (match exS σ c pol tx n p with
    | none => (d, c, σ)
    | some x => exL pol tx n r (nxP tx (n - p) p) (d + 1) x.1 x.2) else (d, c, σ)
theorem exL_s {pol n r p d c : Nat} {tx : Nat → Nat} {σ : sn_V} : exL pol tx n (r + 1) p d c σ = if p < n then (match exS σ c pol tx n p with
    | none => (d, c, σ)
    | some x => exL pol tx n r (nxP tx (n - p) p) (d + 1) x.1 x.2) else (d, c, σ) := rfl
theorem exL_end {pol n r p d c : Nat} {tx : Nat → Nat} {σ : sn_V} (h : ¬ p < n) : exL pol tx n (r + 1) p d c σ = (d, c, σ) := by rw [exL_s, if_neg h]
theorem exL_no {pol n r p d c : Nat} {tx : Nat → Nat} {σ : sn_V} (h : p < n) (e : exS σ c pol tx n p = none) : exL pol tx n (r + 1) p d c σ = (d, c, σ) := by rw [exL_s, if_pos h, e]
theorem exL_go {pol n r p d c : Nat} {tx : Nat → Nat} {σ : sn_V} {x : Nat × sn_V} (h : p < n) (e : exS σ c pol tx n p = some x) : exL pol tx n (r + 1) p d c σ = exL pol tx n r (nxP tx (n - p) p) (d + 1) x.1 x.2 := by rw [exL_s, if_pos h, e]
theorem s_X_carryLoop {h0 : sn_H} {pol n : Nat} {s : Nat} {st : Nat → sn_V} {tx : Nat → Nat} {Q : Option Value → sn_H → Prop} (hn : n ≤ 80) (ht : ∀ i, i < n → tx i < 127) (hpol : pol < 3) :
    ∀ (r p d c : Nat) (σ : sn_V) (h : sn_H), n - p < r → VdP tx n p → d ≤ p → c + (n - p) < 2 ^ 30 → frm 1 102 h0 h → CI h σ s st n tx → σ 0 1 = nI c → σ 0 0 = nI pol →
      (∀ h', frm 1 102 h0 h' → CI h' (exL pol tx n r p d c σ).2.2 s st n tx → (exL pol tx n r p d c σ).2.2 0 1 = nI (exL pol tx n r p d c σ).2.1 → (exL pol tx n r p d c σ).2.1 ≤ c + (n - p) → Q (some (.int (nI (exL pol tx n r p d c σ).1))) (setG h' 101 1 (nI 0))) →
      wpE 79 32 [some (.ref 1), some (.int (nI p)), some (.int (nI d))] [] h (0, 0) Q := by
  intro r
  induction r with
  | zero => intro p d c σ h hr; exact absurd hr (Nat.not_lt_zero _)
  | succ r ih =>
    intro p d c σ h hr V hd hc f C h1 h0' K
    have X := C.X
    have t1 := C.T.1
    have t4 := C.T.2.2.2.1
    by_cases hp : p < n
    · obtain ⟨T, q, o⟩ := st_of hp (V.2 hp)
      obtain ⟨_, V2, lt⟩ := nx_ok hp (V.2 hp) o
      refine r_X_carryOut_32 X.1 X.2.2.2.2.2 t1 (fun z => absurd z (nI_ge (by omega) (by omega))) (fun _ z => ?_) (fun _ _ => ?_)
      · rw [t4] at z; exact absurd z (nI_ge hp (by omega))
      · refine s_X_step C hn ht h1 (by omega) h0' hpol T hp (fun c' σ' e h' f' C' => ?_) (fun e => ?_)
        · have ee : exL pol tx n (r + 1) p d c σ = exL pol tx n r (nxP tx (n - p) p) (d + 1) c' σ' := exL_go (x := (c', σ')) hp e
          rw [ee] at K
          obtain ⟨i1, i2, i3, i4⟩ := ex_inv T C.Z h0' h1 e
          refine r_X_carryOut_54 C'.X.1 C'.X.2.2.2.2.2 C'.T.1 (fun z => absurd z bi_t) (fun _ => s_T_next C'.T hn ht (by omega) (r_X_carryOut_68 ?_))
          rw [nI_s]
          have le := V2.1
          refine ih (nxP tx (n - p) p) (d + 1) c' σ' h' (by omega) V2 (by omega) (by omega) (f.tr f') C' i3 i2 (fun h2 f2 C2 e2 e3 => ?_)
          exact K h2 f2 C2 e2 (by omega)
        · rw [exL_no hp e] at K
          exact r_X_carryOut_54 X.1 X.2.2.2.2.2 t1 (fun _ => K h f C h1 (by show c ≤ c + (n - p); omega)) (fun z => absurd bi_f z)
    · rw [exL_end hp] at K
      have fin := K h f C h1 (by show c ≤ c + (n - p); omega)
      refine r_X_carryOut_32 X.1 X.2.2.2.2.2 t1 (fun _ => fin) (fun _ _ => fin) (fun _ z => ?_)
      rw [t4] at z
      have := V.1
      exact absurd (nI_le (by omega) (by omega)) z
theorem s_M_carryLoop {h : sn_H} {pol n : Nat} {tx : Nat → Nat} {μ0 : sn_V} {Q : Option Value → sn_H → Prop} (S : MoS h 103) (T0 : TxM μ0 n tx) (hpol : pol < 3) :
    ∀ (r p d c : Nat) (σ μ : sn_V), n - p < r → VdP tx n p → c + (n - p) < 2 ^ 29 → (∀ j k, j ≠ 1 → j ≠ 5 → j ≠ 6 → ¬ (j = 0 ∧ k = 6) → ¬ (j = 0 ∧ 11 ≤ k) → μ j k = μ0 j k) → μ 0 11 = nI p → Rel c σ (μ 1) → σ 0 0 = nI pol → StZ σ →
      (∀ μ', (∀ j k, j ≠ 1 → j ≠ 5 → j ≠ 6 → ¬ (j = 0 ∧ k = 6) → ¬ (j = 0 ∧ 11 ≤ k) → μ' j k = μ0 j k) → Rel (exL pol tx n r p d c σ).2.1 (exL pol tx n r p d c σ).2.2 (μ' 1) → Q (some (.int (nI (exL pol tx n r p d c σ).1))) (mpt h 103 (up μ' 0 5 (nI 0)))) →
      wpE 169 27 [some (.ref 103), some (.int (nI d)), some (.int (nI 1))] [] (mpt h 103 μ) (0, 0) Q := by
  have n80 := T0.1
  have ht : ∀ i, i < n → tx i < 127 := fun i hi => by have := (T0.2.2 i hi).2; omega
  intro r
  induction r with
  | zero => intro p d c σ μ hr; exact absurd hr (Nat.not_lt_zero _)
  | succ r ih =>
    intro p d c σ μ hr V hc g h11 R h0 Z K
    have T1 : TxM μ n tx := ⟨n80, by rw [g 0 5 (by omega) (by omega) (by omega) (by omega) (by omega)]; exact T0.2.1, fun i hi => by rw [g 4 i (by omega) (by omega) (by omega) (by omega) (by omega)]; exact T0.2.2 i hi⟩
    obtain ⟨e5, e11⟩ := tm_e (h := h) T1 h11
    by_cases hp : p < n
    · obtain ⟨T, _⟩ := st_of hp (V.2 hp)
      refine r_M_carryOut_27 S.1 (fun z => absurd z bi_t) (fun _ z => ?_) (fun _ _ => ?_)
      · rw [e5, e11] at z; exact absurd z (nI_ge hp (by omega))
      · refine s_M_readsStep S T1 h11 (by omega) (fun μ1 q ps h1 ok inn => ?_) (fun μ1 q ps h1 hq ef => by rw [V.2 hp] at ef; cases ef)
        obtain ⟨nx, V2, lt⟩ := nx_ok hp (V.2 hp) ok
        have T2 := T1.ps ps
        have g1 : ∀ j k, j ≠ 1 → j ≠ 5 → j ≠ 6 → ¬ (j = 0 ∧ k = 6) → ¬ (j = 0 ∧ 11 ≤ k) → μ1 j k = μ0 j k := fun j k a b d e f => (ps j k f).trans (g j k a b d e f)
        have e1 : μ1 1 = μ 1 := funext fun k => ps 1 k (by omega)
        have R1 : Rel c σ (μ1 1) := by rw [e1]; exact R
        have hq := ok.2.1
        have pq := ok.1
        -- behind the ';'
        have go : ∀ (μ2 : sn_V) (v : Int32), (∀ j k, j ≠ 1 → j ≠ 5 → j ≠ 6 → ¬ (j = 0 ∧ k = 6) → ¬ (j = 0 ∧ 11 ≤ k) → μ2 j k = μ0 j k) → μ2 0 11 = nI (nxP tx (n - p) p) → Rel c σ (μ2 1) → StpIn tx n p μ2 → wpE 169 53 [some (.ref 103), some (.int (nI d)), none] [.int v] (mpt h 103 μ2) (0, 0) Q := by
          intro μ2 v g2 h2 R2 in2
          refine r_M_carryOut_53 S.1 (s_M_whyNotDone (pol := pol) S R2 T ht hp in2 (fun ⟨x, e⟩ => ?_) (fun e v hv => ?_))
          · rw [exL_go hp e] at K
            refine r_M_carryOut_58 S.1 (fun z => absurd nI_0 z) (fun _ => ?_)
            have le := V2.1
            obtain ⟨i1, i2, i3, i4⟩ := ex_inv (c' := x.1) (σ' := x.2) T Z h0 R2.c1 e
            refine s_M_does (c' := x.1) (σ' := x.2) S R2 (by omega) h0 hpol T ht hp in2 e (fun μ3 g3 R3 => r_M_carryOut_75 ?_)
            rw [nI_s]
            exact ih (nxP tx (n - p) p) (d + 1) x.1 x.2 μ3 (by omega) V2 (by omega) (fun j k a b e f i => (g3 j k a b e f).trans (g2 j k a b e f i)) (by rw [g3 0 11 (by omega) (by omega) (by omega) (by omega)]; exact h2) R3 i2 i1 K
          · rw [exL_no hp e] at K
            refine r_M_carryOut_58 S.1 (fun _ => ?_) (fun z => absurd z hv)
            refine r_M_carryOut_27 S.1 (fun _ => ?_) (fun z => absurd bi_f z) (fun z => absurd bi_f z)
            rw [mpt_set0]
            exact K μ2 g2 R2
        refine r_M_carryOut_46 S.1 (s_M_isNext S T2 h1 hq (by omega) (fun qn w => ?_) (fun w => ?_))
        · rw [if_pos qn] at nx
          refine go _ _ (fun j k a b e f i => by rw [up_n (by omega)]; exact g1 j k a b e f i) (by rw [up_s, nx.2]) (by
            have ee : (up μ1 0 11 (nI (q + 1))) 1 = μ1 1 := funext fun k => up_n (by omega)
            rw [ee]; exact R1) ?_
          obtain ⟨⟨a1, a2⟩, ⟨b1, b2, b3, b4⟩, ik, iv⟩ := inn
          exact ⟨⟨by rw [up_n (by omega)]; exact a1, a2⟩, ⟨b1, b2, b3, by rw [up_n (by omega)]; exact b4⟩, fun y => by obtain ⟨d1, d2, d3, d4⟩ := ik y; exact ⟨d1, d2, d3, by rw [up_n (by omega)]; exact d4⟩, fun y => by obtain ⟨d1, d2⟩ := iv y; exact ⟨d1, by rw [up_n (by omega)]; exact d2⟩⟩
        · have qn : ¬ q < n := fun z => by
            rw [if_pos z] at nx
            exact w ⟨z, nx.1⟩
          rw [if_neg qn] at nx
          have eq : q = n := by omega
          exact go μ1 _ g1 (by rw [h1, nx, eq]) R1 inn
    · rw [exL_end hp] at K
      have fin := K μ g R
      refine r_M_carryOut_27 S.1 (fun z => absurd z bi_t) (fun _ _ => ?_) (fun _ z => ?_)
      · rw [mpt_set0]; exact fin
      · rw [e5, e11] at z
        have := V.1
        exact absurd (nI_le (by omega) (by omega)) z
theorem feG_le {tx : Nat → Nat} : ∀ m a i j, feG tx m a i = some j → j ≤ i + m := by
  intro m
  induction m with
  | zero =>
    intro a i j h
    unfold feG at h
    split at h
    · cases h
    · cases h; omega
  | succ m ih =>
    intro a i j h
    unfold feG at h
    split at h
    · cases h; omega
    · have := ih _ _ _ h; omega
theorem two_carryOut {L : Nat} {scr : Nat → Int32} {B : Nat} {h : sn_H} (I : Inv B L scr h) (hB : B < 2 ^ 28) : Two L scr B 79 169 [some (.ref 1), none, none] [some (.ref 103), none, none] h := by
  obtain ⟨La, c, σ, s, st, n, tx, μ, C, A, R⟩ := I
  have T := R.tm
  have n80 := T.1
  have X := C.X
  have hcB := R.1.2
  have ht : ∀ i, i < n → tx i < 127 := fun i hi => by have := (T.2.2 i hi).2; omega
  obtain ⟨pol, p1, p2, p3⟩ := R.1.1.2.1
  intro Q K
  refine r_X_carryOut_0 X.1 X.2.2.2.2.2 C.T.1 (s_T_firstError C.T n80 ht ?_)
  cases ef : feG tx n 0 0 with
  | some i =>
    have hi := feG_le n 0 0 i ef
    have ne : ¬ nI i = -(nI 20006) := fun z => by
      have : (-(nI 20006) : Int32).toInt = -20006 := by decide
      rw [← z, nI_toInt (by omega)] at this
      omega
    refine r_X_carryOut_7 X.1 X.2.2.2.1 X.2.1 C.kH (fun z => absurd z ne) (fun _ => ?_)
    refine K _ _ (fun Q2 K2 => ?_)
    rw [A.put]
    refine r_M_carryOut_0 A.1.1 (s_M_findError A.1 T (fun μ' ps => ?_))
    rw [ef]
    refine r_M_carryOut_4 A.1.1 (fun z => absurd z ne) (fun _ => ?_)
    exact K2 _ (two_fin (c := c) La C A.1 (R.ps (by omega) ps))
  | none =>
    have V : VdP tx n 0 := ⟨Nat.zero_le _, fun _ => ef⟩
    refine r_X_carryOut_7 X.1 X.2.2.2.1 X.2.1 C.kH (fun _ => ?_) (fun z => absurd rfl z)
    refine C.push (fun h1 f1 C1 => r_X_carryOut_28 ?_)
    refine s_X_carryLoop (h0 := h) n80 ht p1 (n + 1) 0 0 c σ h1 (by omega) V (Nat.le_refl _) (by omega) f1 C1 R.1.1.c1 p2 (fun h2 f2 C2 e1 e2 => ?_)
    have f3 : frm 101 102 h2 (setG h2 101 1 (nI 0)) := frm_set.wi (by omega) (by omega)
    have C3 := C2.text (n' := 0) (tx' := tx) f3 setG_s (fun i hi => absurd hi (Nat.not_lt_zero i))
    have f := f2.tr (f3.wi (lo' := 1) (hi' := 102) (by omega) (by omega))
    refine K _ _ (fun Q2 K2 => ?_)
    have A2 := f.Mo A (by omega)
    have La2 := f.La La (by omega)
    rw [A2.put]
    refine r_M_carryOut_0 A2.1.1 (s_M_findError A2.1 T (fun μ1 ps => ?_))
    rw [ef]
    refine r_M_carryOut_4 A2.1.1 (fun _ => ?_) (fun z => absurd rfl z)
    have R1 : RI B c σ s st n tx μ1 := R.ps (Nat.le_refl _) ps
    refine m_push A2.1 R1 (fun μ2 e' R2 => r_M_carryOut_18 A2.1.1 ?_)
    rw [mpt_set0]
    have e3 : (up μ2 0 11 (nI 0)) 1 = μ2 1 := funext fun k => up_n (by omega)
    refine s_M_carryLoop (pol := pol) (μ0 := μ2) A2.1 R2.tm p1 (n + 1) 0 0 c σ _ (by omega) V (by omega) (fun j k a b d e f => by rw [up_n (by omega)]) up_s (by rw [e3]; exact R2.1.1) p2 C.Z (fun μ3 g3 R3 => ?_)
    have e4 : (up μ3 0 5 (nI 0)) 1 = μ3 1 := funext fun k => up_n (by omega)
    refine K2 _ (two_fin (c := (exL pol tx n (n + 1) 0 0 c σ).2.1) La2 C3 A2.1 ?_)
    have R4 : RI (B + 80) (exL pol tx n (n + 1) 0 0 c σ).2.1 (exL pol tx n (n + 1) 0 0 c σ).2.2 (min 6 (s + 1)) (hPush s st σ) n tx μ3 := R2.to R3 (by omega) (by omega) (g3 0 3 (by omega) (by omega) (by omega) (by omega) (by omega)) (g3 0 5 (by omega) (by omega) (by omega) (by omega) (by omega)) (fun k => g3 3 k (by omega) (by omega) (by omega) (by omega) (by omega)) (fun k => g3 4 k (by omega) (by omega) (by omega) (by omega) (by omega))
    exact R4.text (Nat.le_refl _) (fun a b _ ab => up_n ab) (by omega) up_s (fun i hi => absurd hi (Nat.not_lt_zero i))
