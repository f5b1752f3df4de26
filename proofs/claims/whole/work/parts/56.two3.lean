/-! ===== pairs of calls: of, ofCommit, dependency, holds, holdsFor ===== -/
def ofV (σ : sn_V) (c p w j : Nat) : Int32 := match j with
  | 0 => σ 6 w
  | 1 => σ 7 w
  | 2 => σ 8 w
  | _ => nI (wyC σ c w p)
theorem s_X_of {h : sn_H} {c p w j : Nat} {σ : sn_V} {s : Nat} {st : Nat → sn_V} {n : Nat} {tx : Nat → Nat} {Q : Option Value → sn_H → Prop} (C : CI h σ s st n tx) (hσ : σ 0 1 = nI c) (hc : c < 2 ^ 30) (hw : w < 8) (ho : bitP (σ 0 3) w) (h0 : σ 0 0 = nI p) (hp : p < 3) (hj : j < 4)
    (H : ∀ γ, Q (some (.int (ofV σ c p w j))) (hpg h 92 γ)) : wpE 49 0 [some (.ref 1), some (.int (nI w)), some (.int (nI j)), none] [] h (0, 0) Q := by
  have X := C.X
  have S := C.A.1
  obtain ⟨γ0, e0⟩ := grA h C.G
  have H0 := H γ0
  rw [← e0] at H0
  have cw : (nI w).toNatClampNeg = w := cl (by omega)
  have n0 := ar_n0 (w := w) (by omega)
  have n8 := ar_nl (w := w) (n := 8) (by omega) (by omega)
  have iw : vp_in (nI w) 24 := inb (by omega)
  have o := (op_x C (w := w)).mpr ho
  have e : j = 0 ∨ j = 1 ∨ j = 2 ∨ j = 3 := by omega
  rcases e with rfl | rfl | rfl | rfl
  · refine r_X_of_0 X.1 X.2.1 S.1 S.f9 S.k6 S.f10 S.k7 S.f11 S.k8 (fun q => absurd q n0) (fun _ q => absurd q n8) (fun _ _ q => absurd o q) (fun _ _ _ _ _ => iw) (fun _ _ _ _ _ => ?_) (fun _ _ _ _ _ => iw) (fun _ _ _ _ q => absurd q (by decide)) (fun _ _ _ _ _ => iw) (fun _ _ _ _ q => absurd q (by decide)) (fun _ _ _ _ q => absurd q (by decide)) (fun _ _ _ q => absurd q (by decide))
    rw [cw, C.A.2 6 (by decide) w]; exact H0
  · refine r_X_of_0 X.1 X.2.1 S.1 S.f9 S.k6 S.f10 S.k7 S.f11 S.k8 (fun q => absurd q n0) (fun _ q => absurd q n8) (fun _ _ q => absurd o q) (fun _ _ _ _ _ => iw) (fun _ _ _ _ q => absurd q (by decide)) (fun _ _ _ _ _ => iw) (fun _ _ _ _ _ => ?_) (fun _ _ _ _ _ => iw) (fun _ _ _ _ q => absurd q (by decide)) (fun _ _ _ _ q => absurd q (by decide)) (fun _ _ _ q => absurd q (by decide))
    rw [cw, C.A.2 7 (by decide) w]; exact H0
  · refine r_X_of_0 X.1 X.2.1 S.1 S.f9 S.k6 S.f10 S.k7 S.f11 S.k8 (fun q => absurd q n0) (fun _ q => absurd q n8) (fun _ _ q => absurd o q) (fun _ _ _ _ _ => iw) (fun _ _ _ _ q => absurd q (by decide)) (fun _ _ _ _ _ => iw) (fun _ _ _ _ q => absurd q (by decide)) (fun _ _ _ _ _ => iw) (fun _ _ _ _ _ => ?_) (fun _ _ _ _ q => absurd q (by decide)) (fun _ _ _ q => absurd q (by decide))
    rw [cw, C.A.2 8 (by decide) w]; exact H0
  · refine r_X_of_0 X.1 X.2.1 S.1 S.f9 S.k6 S.f10 S.k7 S.f11 S.k8 (fun q => absurd q n0) (fun _ q => absurd q n8) (fun _ _ q => absurd o q) (fun _ _ _ q => absurd rfl q) (fun _ _ _ q => absurd rfl q) (fun _ _ _ q => absurd rfl q) (fun _ _ _ q => absurd rfl q) (fun _ _ _ q => absurd rfl q) (fun _ _ _ q => absurd rfl q) (fun _ _ _ q => absurd rfl q) (fun _ _ _ _ => ?_)
    have g0 : hG h 2 0 = nI p := (C.g0 0).trans h0
    rw [g0]
    exact s_X_reason X C.G C.A (by omega) hσ hc hw hp (fun γ => r_X_of_33 (H γ))
theorem s_M_ofSlot {h : sn_H} {c p w j : Nat} {σ μ : sn_V} {Q : Option Value → sn_H → Prop} (S : MoS h 103) (R : Rel c σ (μ 1)) (hc : c < 2 ^ 30) (hw : w < 8) (ho : bitP (σ 0 3) w) (h0 : σ 0 0 = nI p) (hp : p < 3) (hj : j < 4)
    (H : ∀ μ', (∀ j k, j ≠ 5 → j ≠ 6 → ¬ (j = 0 ∧ k = 6) → μ' j k = μ j k) → Q (some (.int (ofV σ c p w j))) (mpt h 103 μ')) : wpE 141 0 [some (.ref 103), some (.int (nI w)), some (.int (nI j))] [] (mpt h 103 μ) (0, 0) Q := by
  obtain ⟨p', p1, p2, p3⟩ := R.2.1
  have ep : p' = p := by rw [p2] at h0; exact (nI_eq (by omega) (by omega)).mp h0
  subst ep
  have H0 := H μ (fun _ _ _ _ _ => rfl)
  obtain ⟨⟨t0, t1, t2, _⟩, _⟩ := (R.slot hw).2 ho
  by_cases q3 : j = 3
  · subst q3
    refine r_M_ofSlot_0 S.1 S.f1.1 S.f1.2 (fun q => absurd rfl q) (fun q => absurd rfl q) (fun _ => inb (by omega)) (fun _ => ?_)
    rw [cl (by omega : 1 < 2 ^ 31), mpt_get (by decide), p3]
    refine s_M_whyRefused S hc R.c2 hw p1 (fun μ' g => r_M_ofSlot_16 ?_)
    rw [wy_same R hc hw ho p1]
    exact H μ' g
  · have n3 : ¬ nI j = nI 3 := fun q => q3 ((nI_eq (by omega) (by omega)).mp q)
    refine r_M_ofSlot_0 S.1 S.f1.1 S.f1.2 (fun _ => by rw [sl_ix]; exact inb (by omega)) (fun _ => ?_) (fun q => absurd q n3) (fun q => absurd q n3)
    rw [sl_ix, cl (by omega), mpt_get (by decide)]
    have e : j = 0 ∨ j = 1 ∨ j = 2 := by omega
    rcases e with rfl | rfl | rfl
    · rw [show μ 1 (36 + 40 * w + 0) = σ 6 w from t0]; exact H0
    · rw [t1]; exact H0
    · rw [t2]; exact H0
theorem two_of {L : Nat} {scr : Nat → Int32} {B : Nat} {v x : Int32} {h : sn_H} (I : Inv B L scr h) (hB : B < 2 ^ 29) : Two L scr B 49 140 [some (.ref 1), some (.int v), some (.int x), none] [some (.ref 103), some (.int v), some (.int x)] h := by
  have I0 := I
  obtain ⟨La, c, σ, s, st, n, tx, μ, C, A, R⟩ := I
  have X := C.X
  have S := C.A.1
  have hc : c < 2 ^ 30 := by have := R.1.2; omega
  by_cases ok : ∃ w, w < 8 ∧ v = nI w ∧ bitP (σ 0 3) w
  · obtain ⟨w, hw, rfl, o⟩ := ok
    have n0 := ar_n0 (w := w) (by omega)
    have n8 := ar_nl (w := w) (n := 8) (by omega) (by omega)
    have n0' := ar_n0' (w := w) (by omega)
    have n8' := ar_nl' (w := w) (n := 7) (by omega) (by omega)
    have ox := (op_x C (w := w)).mpr o
    by_cases okx : ∃ j, j < 4 ∧ x = nI j
    · obtain ⟨j, hj, rfl⟩ := okx
      intro Q K
      obtain ⟨p, p1, p2, p3⟩ := R.1.1.2.1
      refine s_X_of C R.1.1.c1 hc hw o p2 p1 hj (fun γ => ?_)
      obtain ⟨C2, f⟩ := C.gr (γ := γ)
      refine K _ _ (fun Q2 K2 => ?_)
      have A2 := f.Mo A (by omega)
      have La2 := f.La La (by omega)
      rw [A2.put]
      refine r_M_of_0 A2.1.1 A2.1.f1.1 A2.1.f1.2 (fun q => absurd q n0') (fun _ q => absurd q n8') (fun _ _ => mo_in hw) (fun _ _ q => absurd ((op_m A2.1 R.1.1 hw).mpr o) q) (fun _ _ _ q => absurd q (ar_n0' (by omega))) (fun _ _ _ _ q => absurd q (ar_nl' (by omega) (by omega))) (fun _ _ _ _ _ => ?_)
      refine s_M_ofSlot A2.1 R.1.1 hc hw o p2 p1 hj (fun μ' g => r_M_of_27 ?_)
      refine K2 _ (two_fin (c := c) La2 C2 A2.1 ?_)
      have e1 : μ' 1 = μ 1 := funext fun k => g 1 k (by omega) (by omega) (by omega)
      exact R.to (by rw [e1]; exact R.1.1) (by have := R.1.2; omega) (by omega) (g 0 3 (by omega) (by omega) (by omega)) (g 0 5 (by omega) (by omega) (by omega)) (fun k => g 3 k (by omega) (by omega) (by omega)) (fun k => g 4 k (by omega) (by omega) (by omega))
    · have bad : x.toInt < 0 ∨ 3 < x.toInt := by
        rcases pk_ix x (n := 4) (by omega) with z | z | z
        · rw [Int32.lt_iff_toInt_lt] at z; exact Or.inl z
        · rw [Int32.le_iff_toInt_le, nI_toInt (by omega)] at z; exact Or.inr (by omega)
        · exact absurd z okx
      refine two_same I0 (.int (-(nI 20002))) (fun Q HQ => ?_) (fun Q HQ => ?_)
      · exact r_X_of_0 X.1 X.2.1 S.1 S.f9 S.k6 S.f10 S.k7 S.f11 S.k8 (fun q => absurd q n0) (fun _ q => absurd q n8) (fun _ _ q => absurd ox q) (fun _ _ _ _ q => by exfalso; omega) (fun _ _ _ _ q => by exfalso; omega) (fun _ _ _ _ q => by exfalso; omega) (fun _ _ _ _ q => by exfalso; omega) (fun _ _ _ _ q => by exfalso; omega) (fun _ _ _ _ q => by exfalso; omega) (fun _ _ _ _ _ => HQ) (fun _ _ _ q => absurd ⟨3, by omega, q⟩ okx)
      · rw [A.put] at HQ ⊢
        exact r_M_of_0 A.1.1 A.1.f1.1 A.1.f1.2 (fun q => absurd q n0') (fun _ q => absurd q n8') (fun _ _ => mo_in hw) (fun _ _ q => absurd ((op_m A.1 R.1.1 hw).mpr o) q) (fun _ _ _ _ => HQ) (fun _ _ _ _ _ => HQ) (fun _ _ _ a b => absurd (ar_ex' (by omega) a b) okx)
  · refine two_same I0 (.int (-(nI 20001))) (fun Q HQ => ?_) (fun Q HQ => ?_)
    · have bad : ¬ v < 0 → ¬ nI 8 ≤ v → ((hG h 2 3 >>> (v &&& 31)) &&& nI 1) = nI 1 → False := fun a b d => by
        obtain ⟨w, hw, rfl⟩ := ar_ex (by omega) a b
        exact ok ⟨w, hw, rfl, (op_x C).mp d⟩
      exact r_X_of_0 X.1 X.2.1 S.1 S.f9 S.k6 S.f10 S.k7 S.f11 S.k8 (fun _ => HQ) (fun _ _ => HQ) (fun _ _ _ => HQ) (fun a b d => (bad a b d).elim) (fun a b d => (bad a b d).elim) (fun a b d => (bad a b d).elim) (fun a b d => (bad a b d).elim) (fun a b d => (bad a b d).elim) (fun a b d => (bad a b d).elim) (fun a b d => (bad a b d).elim) (fun a b d => (bad a b d).elim)
    · rw [A.put] at HQ ⊢
      have bad : ¬ v < nI 0 → ¬ nI 7 < v → (hG (mpt h 103 μ) 104 ((nI 36 + (nI 40 * v)) + (nI 39)).toNatClampNeg) = nI 1 → False := fun a b d => by
        obtain ⟨w, hw, rfl⟩ := ar_ex' (by omega) a b
        exact ok ⟨w, hw, rfl, (op_m A.1 R.1.1 hw).mp d⟩
      refine r_M_of_0 A.1.1 A.1.f1.1 A.1.f1.2 (fun _ => HQ) (fun _ _ => HQ) (fun a b => ?_) (fun _ _ _ => HQ) (fun a b d => (bad a b d).elim) (fun a b d => (bad a b d).elim) (fun a b d => (bad a b d).elim)
      obtain ⟨w, hw, rfl⟩ := ar_ex' (by omega) a b
      exact mo_in hw
/-- a kept commit's number -/
def kpt (c : Nat) (v : Int32) : Prop := ∃ k, 1 ≤ k ∧ k ≤ c ∧ c < k + 16 ∧ v = nI k
theorem kp_x {c : Nat} {v : Int32} (hc : c < 2 ^ 30) (h1 : ¬ v < nI 1) (h2 : ¬ nI c < v) (h3 : ¬ v ≤ nI c - nI 16) : kpt c v := by
  obtain ⟨j, hj, rfl⟩ := nI_of (x := v) (fun z => h1 (Int32.lt_trans z (by decide)))
  rw [nI_ltI (by omega) (by omega)] at h1 h2
  have e := pk_sub_toInt (a := c) (b := 16) hc (by omega)
  rw [Int32.le_iff_toInt_le, e, nI_toInt hj] at h3
  exact ⟨j, by omega, by omega, by omega, rfl⟩
theorem kp_c {c k : Nat} (hc : c < 2 ^ 30) (h1 : 1 ≤ k) (h2 : k ≤ c) (h3 : c < k + 16) : ¬ nI k < nI 1 ∧ ¬ nI c < nI k ∧ ¬ nI k ≤ nI c - nI 16 := by
  refine ⟨fun z => ?_, fun z => ?_, fun z => ?_⟩
  · rw [nI_ltI (by omega) (by omega)] at z; omega
  · rw [nI_ltI (by omega) (by omega)] at z; omega
  · have e := pk_sub_toInt (a := c) (b := 16) hc (by omega)
    rw [Int32.le_iff_toInt_le, e, nI_toInt (by omega)] at z
    omega
theorem row_v {k : Nat} (h1 : 1 ≤ k) (hk : k < 2 ^ 30) : nI 8 + ((nI k - nI 1) &&& nI 15) = nI (8 + (k - 1) % 16) := by
  rw [pk_sub h1, show (nI 15 : Int32) = nI (2 ^ 4 - 1) from rfl, pk_andN (by omega) 4 (by decide), nI_add]
theorem s_M_isKept {h : sn_H} {m c : Nat} {v : Int32} {μ : sn_V} {Q : Option Value → sn_H → Prop} (S : MoS h m) (hc : c < 2 ^ 30) (h0 : μ 1 0 = nI c) (H1 : kpt c v → Q (some (.int (nI 1))) (mpt h m μ)) (H2 : ¬ kpt c v → Q (some (.int (nI 0))) (mpt h m μ)) : wpE 143 0 [some (.ref m), some (.int v)] [] (mpt h m μ) (0, 0) Q := by
  refine r_M_isKept_0 S.1 (s_M_firstKept (mpt_A S) hc h0 ?_)
  have hn : min 16 c ≤ 16 := Nat.min_le_left _ _
  have hn2 : min 16 c ≤ c := Nat.min_le_right _ _
  have e0 : hG (mpt h m μ) (m + 1) (nI 0).toNatClampNeg = nI c := by rw [nI0c, mpt_get (by decide)]; exact h0
  refine r_M_isKept_5 S.1 S.f1.1 S.f1.2 (inb (by omega)) (fun z => H2 ?_) (fun _ z => H2 ?_) (fun z z2 => H1 ?_)
  · rintro ⟨k, a, b, d, rfl⟩
    rw [nI_ltI (by omega) (by omega)] at z
    omega
  · rintro ⟨k, a, b, d, rfl⟩
    rw [e0, nI_ltI (by omega) (by omega)] at z
    omega
  · rw [e0] at z2
    obtain ⟨j, hj, rfl⟩ := nI_of (x := v) (fun y => z (Int32.lt_of_lt_of_le y (nI_pos' (by omega))))
    rw [nI_ltI (by omega) (by omega)] at z z2
    exact ⟨j, by omega, by omega, by omega, rfl⟩
def ocV (σ : sn_V) (k j : Nat) : Int32 := match j with
  | 0 => σ 6 (8 + (k - 1) % 16)
  | 1 => σ 7 (8 + (k - 1) % 16)
  | _ => σ 8 (8 + (k - 1) % 16)
theorem s_X_ofCommit {h : sn_H} {c k j : Nat} {σ : sn_V} {s : Nat} {st : Nat → sn_V} {n : Nat} {tx : Nat → Nat} {Q : Option Value → sn_H → Prop} (C : CI h σ s st n tx) (hσ : σ 0 1 = nI c) (hc : c < 2 ^ 30) (h1 : 1 ≤ k) (h2 : k ≤ c) (h3 : c < k + 16) (hj : j < 3)
    (H : Q (some (.int (ocV σ k j))) h) : wpE 51 0 [some (.ref 1), some (.int (nI k)), some (.int (nI j))] [] h (0, 0) Q := by
  have X := C.X
  have S := C.A.1
  have g1 : hG h 2 1 = nI c := (C.g0 1).trans hσ
  obtain ⟨a1, a2, a3⟩ := kp_c hc h1 h2 h3
  have rv := row_v h1 (by omega)
  have cr : (nI (8 + (k - 1) % 16)).toNatClampNeg = 8 + (k - 1) % 16 := cl (by omega)
  have ir : vp_in (nI (8 + (k - 1) % 16)) 24 := inb (by omega)
  have e : j = 0 ∨ j = 1 ∨ j = 2 := by omega
  rcases e with rfl | rfl | rfl <;> refine r_X_ofCommit_0 X.1 X.2.1 S.1 S.f9 S.k6 S.f10 S.k7 S.f11 S.k8 (fun q => absurd q a1) (fun _ q => absurd (by rw [← g1]; exact q) a2) (fun _ _ q => absurd (by rw [← g1]; exact q) a3) (fun _ _ _ _ => by rw [rv]; exact ir) (fun _ _ _ q => ?_) (fun _ _ _ _ => by rw [rv]; exact ir) (fun _ _ _ q => ?_) (fun _ _ _ _ => by rw [rv]; exact ir) (fun _ _ _ q => ?_) (fun _ _ _ q => absurd q (by decide)) <;> first | exact absurd q (by decide) | skip
  · rw [rv, cr, C.A.2 6 (by decide)]; exact H
  · rw [rv, cr, C.A.2 7 (by decide)]; exact H
  · rw [rv, cr, C.A.2 8 (by decide)]; exact H
theorem oc_same {c k j : Nat} {σ μ : sn_V} (R : Rel c σ (μ 1)) (h1 : 1 ≤ k) (h2 : k ≤ c) (h3 : c < k + 16) (hj : j < 3) : μ 1 (356 + 15 * (k % 16) + j) = ocV σ k j := by
  obtain ⟨t0, t1, t2, _⟩ := R.kept h1 h2 h3
  have e : j = 0 ∨ j = 1 ∨ j = 2 := by omega
  rcases e with rfl | rfl | rfl
  · exact t0
  · exact t1
  · exact t2
theorem ka_ix {k j : Nat} (hk : k < 2 ^ 31) : (nI 356 + (nI 15 * (nI k - nI k / nI 16 * nI 16))) + nI j = nI (356 + 15 * (k % 16) + j) := by rw [mod16 hk, pk_mul, nI_add, nI_add]
theorem two_ofCommit {L : Nat} {scr : Nat → Int32} {B : Nat} {v x : Int32} {h : sn_H} (I : Inv B L scr h) (hB : B < 2 ^ 29) : Two L scr B 51 142 [some (.ref 1), some (.int v), some (.int x)] [some (.ref 103), some (.int v), some (.int x)] h := by
  have I0 := I
  obtain ⟨La, c, σ, s, st, n, tx, μ, C, A, R⟩ := I
  have X := C.X
  have S := C.A.1
  have hc : c < 2 ^ 30 := by have := R.1.2; omega
  have g1 : hG h 2 1 = nI c := (C.g0 1).trans R.1.1.c1
  by_cases ok : kpt c v
  · have ok' := ok
    obtain ⟨k, h1, h2, h3, rfl⟩ := ok
    by_cases okx : ∃ j, j < 3 ∧ x = nI j
    · obtain ⟨j, hj, rfl⟩ := okx
      refine two_same I0 (.int (ocV σ k j)) (fun Q HQ => s_X_ofCommit C R.1.1.c1 hc h1 h2 h3 hj HQ) (fun Q HQ => ?_)
      rw [A.put] at HQ ⊢
      refine r_M_ofCommit_0 A.1.1 (s_M_isKept A.1 hc R.1.1.c2 (fun _ => ?_) (fun q => absurd ok' q))
      refine r_M_ofCommit_5 A.1.1 A.1.f1.1 A.1.f1.2 (fun _ q => absurd q (ar_n0' (by omega))) (fun _ _ q => absurd q (ar_nl' (by omega) (by omega))) (fun _ _ _ => by rw [ka_ix (by omega)]; exact inb (by omega)) (fun _ _ _ => ?_) (fun q => absurd q bi_t)
      rw [ka_ix (by omega), cl (by omega), mpt_get (by decide), oc_same R.1.1 h1 h2 h3 hj]
      exact HQ
    · have bad : x.toInt < 0 ∨ 2 < x.toInt := by
        rcases pk_ix x (n := 3) (by omega) with z | z | z
        · rw [Int32.lt_iff_toInt_lt] at z; exact Or.inl z
        · rw [Int32.le_iff_toInt_le, nI_toInt (by omega)] at z; exact Or.inr (by omega)
        · exact absurd z okx
      obtain ⟨a1, a2, a3⟩ := kp_c hc h1 h2 h3
      refine two_same I0 (.int (-(nI 20002))) (fun Q HQ => ?_) (fun Q HQ => ?_)
      · exact r_X_ofCommit_0 X.1 X.2.1 S.1 S.f9 S.k6 S.f10 S.k7 S.f11 S.k8 (fun q => absurd q a1) (fun _ q => absurd (by rw [← g1]; exact q) a2) (fun _ _ q => absurd (by rw [← g1]; exact q) a3) (fun _ _ _ q => by exfalso; omega) (fun _ _ _ q => by exfalso; omega) (fun _ _ _ q => by exfalso; omega) (fun _ _ _ q => by exfalso; omega) (fun _ _ _ q => by exfalso; omega) (fun _ _ _ q => by exfalso; omega) (fun _ _ _ _ => HQ)
      · rw [A.put] at HQ ⊢
        refine r_M_ofCommit_0 A.1.1 (s_M_isKept A.1 hc R.1.1.c2 (fun _ => ?_) (fun q => absurd ok' q))
        exact r_M_ofCommit_5 A.1.1 A.1.f1.1 A.1.f1.2 (fun _ _ => HQ) (fun _ _ _ => HQ) (fun _ a b => absurd (ar_ex' (by omega) a b) okx) (fun _ a b => absurd (ar_ex' (by omega) a b) okx) (fun q => absurd q bi_t)
  · refine two_same I0 (.int (-(nI 20001))) (fun Q HQ => ?_) (fun Q HQ => ?_)
    · have bad : ¬ v < nI 1 → ¬ (hG h 2 1) < v → ¬ v ≤ ((hG h 2 1) - nI 16) → False := fun a b d => by
        rw [g1] at b d
        exact ok (kp_x hc a b d)
      exact r_X_ofCommit_0 X.1 X.2.1 S.1 S.f9 S.k6 S.f10 S.k7 S.f11 S.k8 (fun _ => HQ) (fun _ _ => HQ) (fun _ _ _ => HQ) (fun a b d => (bad a b d).elim) (fun a b d => (bad a b d).elim) (fun a b d => (bad a b d).elim) (fun a b d => (bad a b d).elim) (fun a b d => (bad a b d).elim) (fun a b d => (bad a b d).elim) (fun a b d => (bad a b d).elim)
    · rw [A.put] at HQ ⊢
      refine r_M_ofCommit_0 A.1.1 (s_M_isKept A.1 hc R.1.1.c2 (fun q => absurd q ok) (fun _ => ?_))
      exact r_M_ofCommit_5 A.1.1 A.1.f1.1 A.1.f1.2 (fun q => absurd bi_f q) (fun q => absurd bi_f q) (fun q => absurd bi_f q) (fun q => absurd bi_f q) (fun _ => HQ)
theorem two_dependency {L : Nat} {scr : Nat → Int32} {B : Nat} {v x : Int32} {h : sn_H} (I : Inv B L scr h) (hB : B < 2 ^ 29) : Two L scr B 53 144 [some (.ref 1), some (.int v), some (.int x)] [some (.ref 103), some (.int v), some (.int x)] h := by
  have I0 := I
  obtain ⟨La, c, σ, s, st, n, tx, μ, C, A, R⟩ := I
  have X := C.X
  have S := C.A.1
  have hc : c < 2 ^ 30 := by have := R.1.2; omega
  have g1 : hG h 2 1 = nI c := (C.g0 1).trans R.1.1.c1
  have hn : min 16 c ≤ 16 := Nat.min_le_left _ _
  have hn2 : min 16 c ≤ c := Nat.min_le_right _ _
  have bd : ∀ {z : Int32}, ¬ kpt c z → ¬ z < nI 1 → ¬ (hG h 2 1) < z → ¬ z ≤ ((hG h 2 1) - nI 16) → False := fun {z} ok a b d => by
    rw [g1] at b d
    exact ok (kp_x hc a b d)
  by_cases ok : kpt c v
  · by_cases okx : kpt c x
    · have ok' := ok
      have okx' := okx
      obtain ⟨k, h1, h2, h3, rfl⟩ := ok
      obtain ⟨l, l1, l2, l3, rfl⟩ := okx
      obtain ⟨a1, a2, a3⟩ := kp_c hc h1 h2 h3
      obtain ⟨b1, b2, b3⟩ := kp_c hc l1 l2 l3
      by_cases e : k = l
      · subst e
        refine two_same I0 (.int (-(nI 20002))) (fun Q HQ => ?_) (fun Q HQ => ?_)
        · exact r_X_dependency_0 X.1 X.2.1 S.1 (fun q => absurd q a1) (fun _ q => absurd (by rw [← g1]; exact q) a2) (fun _ _ q => absurd (by rw [← g1]; exact q) a3) (fun _ _ _ q => absurd q a1) (fun _ _ _ _ q => absurd (by rw [← g1]; exact q) a2) (fun _ _ _ _ _ q => absurd (by rw [← g1]; exact q) a3) (fun _ _ _ _ _ _ q => absurd rfl q) (fun _ _ _ _ _ _ _ => HQ)
        · rw [A.put] at HQ ⊢
          refine r_M_dependency_0 A.1.1 (s_M_isKept A.1 hc R.1.1.c2 (fun _ => ?_) (fun q => absurd ok' q))
          refine r_M_dependency_5 A.1.1 (fun q => absurd q bi_t) (fun _ => s_M_isKept A.1 hc R.1.1.c2 (fun _ => ?_) (fun q => absurd ok' q))
          exact r_M_dependency_13 A.1.1 (fun _ q => absurd rfl q) (fun _ _ => HQ) (fun q => absurd q bi_t)
      · have ne : ¬ nI k = nI l := fun q => e ((nI_eq (by omega) (by omega)).mp q)
        have hk : k - (c - min 16 c + 1) < min 16 c := by omega
        have hl : l - (c - min 16 c + 1) < min 16 c := by omega
        have eS : dS σ (8 + (k - 1) % 16) (nI k) (8 + (l - 1) % 16) (nI l) = mS μ c 0 (k - (c - min 16 c + 1)) (l - (c - min 16 c + 1)) := by
          rw [← (ed_kept (w := 0) R.1.1 hc hk hl).1]
          unfold ed nrC nnC
          rw [show c - min 16 c + (k - (c - min 16 c + 1)) = k - 1 by omega, show c - min 16 c + (l - (c - min 16 c + 1)) = l - 1 by omega, show c - min 16 c + 1 + (k - (c - min 16 c + 1)) = k by omega, show c - min 16 c + 1 + (l - (c - min 16 c + 1)) = l by omega]
        refine two_same I0 (.int (dS σ (8 + (k - 1) % 16) (nI k) (8 + (l - 1) % 16) (nI l))) (fun Q HQ => ?_) (fun Q HQ => ?_)
        · refine r_X_dependency_0 X.1 X.2.1 S.1 (fun q => absurd q a1) (fun _ q => absurd (by rw [← g1]; exact q) a2) (fun _ _ q => absurd (by rw [← g1]; exact q) a3) (fun _ _ _ q => absurd q b1) (fun _ _ _ _ q => absurd (by rw [← g1]; exact q) b2) (fun _ _ _ _ _ q => absurd (by rw [← g1]; exact q) b3) (fun _ _ _ _ _ _ _ => ?_) (fun _ _ _ _ _ _ q => absurd q ne)
          rw [row_v h1 (by omega), row_v l1 (by omega)]
          exact s_S_dependencySum C.A (by omega) (by omega) (r_X_dependency_60 HQ)
        · rw [A.put] at HQ ⊢
          rw [eS] at HQ
          refine r_M_dependency_0 A.1.1 (s_M_isKept A.1 hc R.1.1.c2 (fun _ => ?_) (fun q => absurd ok' q))
          refine r_M_dependency_5 A.1.1 (fun q => absurd q bi_t) (fun _ => s_M_isKept A.1 hc R.1.1.c2 (fun _ => ?_) (fun q => absurd okx' q))
          refine r_M_dependency_13 A.1.1 (fun _ _ => ?_) (fun _ q => absurd q ne) (fun q => absurd q bi_t)
          refine s_M_firstKept (mpt_A A.1) hc R.1.1.c2 ?_
          refine r_M_dependency_37 A.1.1 (s_M_firstKept (mpt_A A.1) hc R.1.1.c2 ?_)
          rw [pk_sub (a := k) (by omega)]
          refine r_M_dependency_43 A.1.1 ?_
          rw [pk_sub (a := l) (by omega)]
          exact s_M_dependencyOf (w := 0) (mpt_A A.1) hc (by omega) (by omega) R.1.1.c2 (by omega) (fun q => by exfalso; omega) (fun q => by exfalso; omega) (r_M_dependency_47 HQ)
    · have ok' := ok
      obtain ⟨k, h1, h2, h3, rfl⟩ := ok
      obtain ⟨a1, a2, a3⟩ := kp_c hc h1 h2 h3
      refine two_same I0 (.int (-(nI 20001))) (fun Q HQ => ?_) (fun Q HQ => ?_)
      · exact r_X_dependency_0 X.1 X.2.1 S.1 (fun q => absurd q a1) (fun _ q => absurd (by rw [← g1]; exact q) a2) (fun _ _ q => absurd (by rw [← g1]; exact q) a3) (fun _ _ _ _ => HQ) (fun _ _ _ _ _ => HQ) (fun _ _ _ _ _ _ => HQ) (fun _ _ _ a b d => (bd okx a b d).elim) (fun _ _ _ a b d => (bd okx a b d).elim)
      · rw [A.put] at HQ ⊢
        refine r_M_dependency_0 A.1.1 (s_M_isKept A.1 hc R.1.1.c2 (fun _ => ?_) (fun q => absurd ok' q))
        refine r_M_dependency_5 A.1.1 (fun q => absurd q bi_t) (fun _ => s_M_isKept A.1 hc R.1.1.c2 (fun q => absurd q okx) (fun _ => ?_))
        exact r_M_dependency_13 A.1.1 (fun q => absurd bi_f q) (fun q => absurd bi_f q) (fun _ => HQ)
  · refine two_same I0 (.int (-(nI 20001))) (fun Q HQ => ?_) (fun Q HQ => ?_)
    · exact r_X_dependency_0 X.1 X.2.1 S.1 (fun _ => HQ) (fun _ _ => HQ) (fun _ _ _ => HQ) (fun a b d => (bd ok a b d).elim) (fun a b d => (bd ok a b d).elim) (fun a b d => (bd ok a b d).elim) (fun a b d => (bd ok a b d).elim) (fun a b d => (bd ok a b d).elim)
    · rw [A.put] at HQ ⊢
      refine r_M_dependency_0 A.1.1 (s_M_isKept A.1 hc R.1.1.c2 (fun q => absurd q ok) (fun _ => ?_))
      exact r_M_dependency_5 A.1.1 (fun _ => HQ) (fun q => absurd bi_f q)
/-- constraints -/
def hdB (σ : sn_V) (q : Nat) : Bool := decide (¬ sumK (σ 2 q) (σ 4) 12 < σ 3 q)
def hfB (σ : sn_V) (w q : Nat) : Bool := decide (¬ sumK (σ 2 q) (fun k => σ 10 (w * 12 + k)) 12 < σ 3 q)
theorem s_S_held {h : sn_H} {b q : Nat} {σ : sn_V} {Q : Option Value → sn_H → Prop} (A : StA h b σ) (hq : q < 3) (H : Q (some (.int (bi (hdB σ q)))) h) : wpE 64 0 [some (.ref b), some (.ref (b + 4)), some (.int (nI 0)), some (.int (nI q)), none, none] [] h (0, 0) Q := by
  have e : sumK (σ 2 q) (fun k => hG h (b + 4) (0 + k)) 12 = sumK (σ 2 q) (σ 4) 12 := sumK_cg 12 (fun k _ => by show hG h (b + 4) (0 + k) = σ 4 k; rw [Nat.zero_add, A.2 4 (by decide)])
  unfold hdB at H
  refine s_S_constraintIsMet (fr := 0) (n0 := 12) A A.1.k4 (by omega) (by omega) hq (fun z => ?_) (fun z => ?_)
  · rw [e] at z
    rw [decide_eq_false (fun y => y z)] at H
    exact H
  · rw [e] at z
    rw [decide_eq_true z] at H
    exact H
theorem s_X_holds {h : sn_H} {q : Nat} {σ : sn_V} {s : Nat} {st : Nat → sn_V} {n : Nat} {tx : Nat → Nat} {Q : Option Value → sn_H → Prop} (C : CI h σ s st n tx) (hq : q < 3) (H : Q (some (.int (bi (hdB σ q)))) h) : wpE 63 0 [some (.ref 1), some (.int (nI q))] [] h (0, 0) Q := by
  refine r_X_holds_0 C.X.1 C.X.2.1 C.A.1.1 C.A.1.f7 (fun z => absurd z (ar_n0 (by omega))) (fun _ z => absurd z (ar_nl hq (by omega))) (fun _ _ => s_S_held C.A hq ?_)
  cases hb : hdB σ q with
  | true => rw [hb] at H; exact r_X_holds_27 (fun z => absurd z bi_t) (fun _ => H)
  | false => rw [hb] at H; exact r_X_holds_27 (fun _ => H) (fun z => absurd bi_f z)
theorem s_X_holdsFor {h : sn_H} {q w : Nat} {σ : sn_V} {s : Nat} {st : Nat → sn_V} {n : Nat} {tx : Nat → Nat} {Q : Option Value → sn_H → Prop} (C : CI h σ s st n tx) (hq : q < 3) (hw : w < 8) (ho : bitP (σ 0 3) w) (H : Q (some (.int (bi (hfB σ w q)))) h) : wpE 65 0 [some (.ref 1), some (.int (nI w)), some (.int (nI q)), none] [] h (0, 0) Q := by
  refine r_X_holdsFor_0 C.X.1 C.X.2.1 C.A.1.1 C.A.1.f13 (fun z => absurd z (ar_n0 (by omega))) (fun _ z => absurd z (ar_nl hw (by omega))) (fun _ _ z => absurd ((op_x C).mpr ho) z) (fun _ _ _ z => absurd z (ar_n0 (by omega))) (fun _ _ _ _ z => absurd z (ar_nl hq (by omega))) (fun _ _ _ _ _ => ?_)
  rw [pk_mul]
  have e : sumK (σ 2 q) (fun k => hG h (2 + 10) (w * 12 + k)) 12 = sumK (σ 2 q) (fun k => σ 10 (w * 12 + k)) 12 := sumK_cg 12 (fun k _ => C.A.2 10 (by decide) _)
  unfold hfB at H
  refine s_S_constraintIsMet (fr := w * 12) (n0 := 96) C.A C.A.1.k10 (by omega) (by omega) hq (fun z => ?_) (fun z => ?_)
  · rw [e] at z
    rw [decide_eq_false (fun y => y z)] at H
    exact r_X_holdsFor_42 (fun _ => H) (fun y => absurd bi_f y)
  · rw [e] at z
    rw [decide_eq_true z] at H
    exact r_X_holdsFor_42 (fun y => absurd y bi_t) (fun _ => H)
theorem s_M_held {h : sn_H} {c q : Nat} {σ μ : sn_V} {Q : Option Value → sn_H → Prop} (S : MoS h 103) (R : Rel c σ (μ 1)) (hq : q < 3) (H : Q (some (.int (bi (hdB σ q)))) (mpt h 103 μ)) : wpE 154 0 [some (.ref 103), some (.int (nI q)), none, none] [] (mpt h 103 μ) (0, 0) Q := by
  refine s_M_isHeld S hq ?_
  obtain ⟨r5, r5'⟩ := R.2.2.2.2.1 q hq
  have e : sumK (μ 1 (6 + 2 * q)) (fun k => μ 1 (12 + k)) 12 = sumK (σ 2 q) (σ 4) 12 := by rw [r5]; exact sumK_cg 12 (fun k hk => (R.2.2.2.2.2.1 k hk).1)
  rw [e, r5']
  exact H
theorem s_M_heldFor {h : sn_H} {c q w : Nat} {σ μ : sn_V} {Q : Option Value → sn_H → Prop} (S : MoS h 103) (R : Rel c σ (μ 1)) (hq : q < 3) (hw : w < 8) (ho : bitP (σ 0 3) w) (H : Q (some (.int (bi (hfB σ w q)))) (mpt h 103 μ)) : wpE 156 0 [some (.ref 103), some (.int (nI w)), some (.int (nI q)), none, none, none] [] (mpt h 103 μ) (0, 0) Q := by
  refine s_M_isHeldFor S hq hw ?_
  obtain ⟨r5, r5'⟩ := R.2.2.2.2.1 q hq
  obtain ⟨⟨_, _, t2, _⟩, _, s3⟩ := (R.slot hw).2 ho
  have e : sumK (μ 1 (6 + 2 * q)) (fun k => if bitP (μ 1 (36 + 40 * w + 2)) k then μ 1 (36 + 40 * w + 27 + k) else μ 1 (36 + 40 * w + 15 + k)) 12 = sumK (σ 2 q) (fun k => σ 10 (w * 12 + k)) 12 := by
    rw [r5, t2]
    exact sumK_cg 12 (fun k hk => (s3 k hk).symm)
  rw [e, r5']
  exact H
theorem two_holds {L : Nat} {scr : Nat → Int32} {B : Nat} {v : Int32} {h : sn_H} (I : Inv B L scr h) : Two L scr B 63 153 [some (.ref 1), some (.int v)] [some (.ref 103), some (.int v)] h := by
  have I0 := I
  obtain ⟨La, c, σ, s, st, n, tx, μ, C, A, R⟩ := I
  have X := C.X
  by_cases ok : ∃ k, k < 3 ∧ v = nI k
  · obtain ⟨k, hk, rfl⟩ := ok
    refine two_same I0 (.int (bi (hdB σ k))) (fun Q HQ => s_X_holds C hk HQ) (fun Q HQ => ?_)
    rw [A.put] at HQ ⊢
    exact r_M_holds_0 A.1.1 (fun q => absurd q (ar_n0' (by omega))) (fun _ q => absurd q (ar_nl' (by omega) (by omega))) (fun _ _ => s_M_held A.1 R.1.1 hk (r_M_holds_12 HQ))
  · refine two_same I0 (.int (-(nI 20001))) (fun Q HQ => ?_) (fun Q HQ => ?_)
    · exact r_X_holds_0 X.1 X.2.1 C.A.1.1 C.A.1.f7 (fun _ => HQ) (fun _ _ => HQ) (fun a b => absurd (ar_ex (by omega) a b) ok)
    · exact r_M_holds_0 A.1.1 (fun _ => HQ) (fun _ _ => HQ) (fun a b => absurd (ar_ex' (by omega) a b) ok)
theorem two_holdsFor {L : Nat} {scr : Nat → Int32} {B : Nat} {v x : Int32} {h : sn_H} (I : Inv B L scr h) : Two L scr B 65 155 [some (.ref 1), some (.int v), some (.int x), none] [some (.ref 103), some (.int v), some (.int x)] h := by
  have I0 := I
  obtain ⟨La, c, σ, s, st, n, tx, μ, C, A, R⟩ := I
  have X := C.X
  by_cases ok : ∃ w k, w < 8 ∧ k < 3 ∧ v = nI w ∧ x = nI k ∧ bitP (σ 0 3) w
  · obtain ⟨w, k, hw, hk, rfl, rfl, o⟩ := ok
    refine two_same I0 (.int (bi (hfB σ w k))) (fun Q HQ => s_X_holdsFor C hk hw o HQ) (fun Q HQ => ?_)
    rw [A.put] at HQ ⊢
    exact r_M_holdsFor_0 A.1.1 A.1.f1.1 A.1.f1.2 (fun q => absurd q (ar_n0' (by omega))) (fun _ q => absurd q (ar_nl' (by omega) (by omega))) (fun _ _ => mo_in hw) (fun _ _ q => absurd ((op_m A.1 R.1.1 hw).mpr o) q) (fun _ _ _ q => absurd q (ar_n0' (by omega))) (fun _ _ _ _ q => absurd q (ar_nl' (by omega) (by omega))) (fun _ _ _ _ _ => s_M_heldFor A.1 R.1.1 hk hw o (r_M_holdsFor_21 HQ))
  · refine two_same I0 (.int (-(nI 20001))) (fun Q HQ => ?_) (fun Q HQ => ?_)
    · refine r_X_holdsFor_0 X.1 X.2.1 C.A.1.1 C.A.1.f13 (fun _ => HQ) (fun _ _ => HQ) (fun _ _ _ => HQ) (fun _ _ _ _ => HQ) (fun _ _ _ _ _ => HQ) (fun a b d e f => ?_)
      obtain ⟨w, hw, rfl⟩ := ar_ex (by omega) a b
      obtain ⟨k, hk, rfl⟩ := ar_ex (by omega) e f
      exact absurd ⟨w, k, hw, hk, rfl, rfl, (op_x C).mp d⟩ ok
    · rw [A.put] at HQ ⊢
      refine r_M_holdsFor_0 A.1.1 A.1.f1.1 A.1.f1.2 (fun _ => HQ) (fun _ _ => HQ) (fun a b => ?_) (fun _ _ _ => HQ) (fun _ _ _ _ => HQ) (fun _ _ _ _ _ => HQ) (fun a b d e f => ?_)
      · obtain ⟨w, hw, rfl⟩ := ar_ex' (by omega) a b
        exact mo_in hw
      · obtain ⟨w, hw, rfl⟩ := ar_ex' (by omega) a b
        obtain ⟨k, hk, rfl⟩ := ar_ex' (by omega) e f
        exact absurd ⟨w, k, hw, hk, rfl, rfl, (op_m A.1 R.1.1 hw).mp d⟩ ok
