/-! ===== pairs of calls: ringOf, inRings, orderAt, skews, refusedBy ===== -/
theorem RI.scr {B B' c : Nat} {σ : sn_V} {s : Nat} {st : Nat → sn_V} {n : Nat} {tx : Nat → Nat} {μ μ' : sn_V} (R : RI B c σ s st n tx μ) (hB : B ≤ B') (g : ∀ j k, j ≠ 5 → j ≠ 6 → j ≠ 7 → ¬ (j = 0 ∧ (k = 6 ∨ k = 10)) → μ' j k = μ j k) : RI B' c σ s st n tx μ' := by
  have e1 : μ' 1 = μ 1 := funext fun k => g 1 k (by omega) (by omega) (by omega) (by omega)
  exact R.to (by rw [e1]; exact R.1.1) (by have := R.1.2; omega) hB (g 0 3 (by omega) (by omega) (by omega) (by omega)) (g 0 5 (by omega) (by omega) (by omega) (by omega)) (fun k => g 3 k (by omega) (by omega) (by omega) (by omega)) (fun k => g 4 k (by omega) (by omega) (by omega) (by omega))
def rcV (σ : sn_V) (c w t : Nat) : Int32 := if t < rgQ (gRo σ c w) (min 16 c + 1) then nI (nrJ (min 16 c) (c + 1) (nnC c (min 16 c)) (rgN (gRo σ c w) (dst (gRo σ c w) (min 16 c + 1) (min 16 c) (min 16 c)) (min 16 c + 1) (rgQ (gRo σ c w) (min 16 c + 1)) (t + 1))) else -(nI 20006)
theorem s_X_ringOf {h : sn_H} {c w i : Nat} {σ : sn_V} {s : Nat} {st : Nat → sn_V} {n : Nat} {tx : Nat → Nat} {Q : Option Value → sn_H → Prop} (C : CI h σ s st n tx) (hσ : σ 0 1 = nI c) (hc : c < 2 ^ 30) (hw : w < 8) (ho : bitP (σ 0 3) w) (hi : 1 ≤ i) (hi2 : i < 2 ^ 31)
    (H : ∀ γ, Q (some (.int (rcV σ c w (i - 1)))) (hpg h 92 γ)) : wpE 54 0 [some (.ref 1), some (.int (nI w)), some (.int (nI i)), none] [] h (0, 0) Q := by
  have X := C.X
  have S := C.G
  have A := C.A
  have hn : min 16 c ≤ 16 := Nat.min_le_left _ _
  have hb' : 2 + 10 < 92 ∨ 92 + 8 < 2 := Or.inl (by omega)
  obtain ⟨γ0, e⟩ := grA h S
  unfold rcV at H
  refine r_X_ringOf_0 X.1 X.2.1 A.1.1 X.2.2.2.2.1 S.1 (fun q => absurd q (ar_n0 (by omega))) (fun _ q => absurd q (ar_nl hw (by omega))) (fun _ _ q => absurd ((op_x C).mpr ho) q) (fun _ _ _ _ => ?_) (fun _ _ _ q => absurd (nI_le hi hi2) q)
  rw [e]
  refine s_G_load S A hb' hσ hc (fun γ1 G1 => ?_)
  refine r_X_ringOf_32 X.1 X.2.2.2.2.1 X.2.1 S.1 ?_
  refine s_G_join S A hb' hn (fun x _ => by unfold nrC; omega) (by omega) hσ G1 (fun γ2 G2 => ?_)
  refine r_X_ringOf_44 X.1 X.2.2.2.2.1 S.1 ?_
  refine s_G_findRing (n := min 16 c + 1) (R := gRo σ c w) (nn := nrJ (min 16 c) (c + 1) (nnC c (min 16 c))) S (by omega) (by omega) G2.1 (fun x j hx hj => ((G2.2 x hx).2.2.1 j (by omega)).trans gR_iff.symm) (fun j hj => (G2.2 j hj).2.1) (fun γ3 f1 f2 f3 => ?_)
  have q16 : rgQ (gRo σ c w) (min 16 c + 1) ≤ 17 := by
    unfold rgQ
    split
    · omega
    · exact nst_le _
  have e9 : hG (hpg h 92 γ3) 92 9 = nI (rgQ (gRo σ c w) (min 16 c + 1)) := by rw [hpg_get0]; exact f2
  have e1 : nI i - nI 1 = nI (i - 1) := pk_sub hi
  have H := H γ3
  refine r_X_ringOf_51 X.1 X.2.2.2.2.1 S.1 S.f8.1 S.f8.2 (fun q => ?_) (fun _ q => ?_) (fun _ q => ?_) (fun _ q => ?_)
  · rw [e1] at q; exact absurd q (ar_n0 (by omega))
  · rw [e1, e9, nI_leI (by omega) (by omega)] at q
    rw [if_neg (by omega)] at H
    exact H
  · rw [e1, e9, nI_leI (by omega) (by omega)] at q
    rw [e1]
    exact inb (by omega)
  · rw [e1, e9, nI_leI (by omega) (by omega)] at q
    rw [if_pos (by omega)] at H
    rw [e1, cl (by omega), hpg_get (by decide), f3 (i - 1) (by omega)]
    exact H
theorem two_ringOf {L : Nat} {scr : Nat → Int32} {B : Nat} {v x : Int32} {h : sn_H} (I : Inv B L scr h) (hB : B < 2 ^ 29) : Two L scr B 54 145 [some (.ref 1), some (.int v), some (.int x), none] [some (.ref 103), some (.int v), some (.int x), none, none] h := by
  have I0 := I
  obtain ⟨La, c, σ, s, st, n, tx, μ, C, A, R⟩ := I
  have X := C.X
  have hc : c < 2 ^ 30 := by have := R.1.2; omega
  by_cases ok : ∃ w, w < 8 ∧ v = nI w ∧ bitP (σ 0 3) w
  · obtain ⟨w, hw, rfl, o⟩ := ok
    by_cases okx : nI 1 ≤ x
    · obtain ⟨i, hi2, rfl⟩ := nI_of (x := x) (fun z => absurd (Int32.lt_of_le_of_lt okx z) (by decide))
      have hi : 1 ≤ i := by rw [nI_leI (by omega) hi2] at okx; exact okx
      intro Q K
      refine s_X_ringOf C R.1.1.c1 hc hw o hi hi2 (fun γ => ?_)
      obtain ⟨C2, f⟩ := C.gr (γ := γ)
      refine K _ _ (fun Q2 K2 => ?_)
      have A2 := f.Mo A (by omega)
      have La2 := f.La La (by omega)
      rw [A2.put]
      refine s_M_ringOf A2.1 hc R.1.1.c2 hw ((R.1.1.open1 hw).mpr o) hi hi2 (fun μ' g => ?_)
      have ev := ring_val (t := i - 1) R.1.1 hc hw o
      rw [show i - 1 + 1 = i by omega] at ev
      rw [← ev]
      have e2 : rcV σ c w (i - 1) = if i - 1 < rgQ (gRo σ c w) (min 16 c + 1) then nI (nrJ (min 16 c) (c + 1) (nnC c (min 16 c)) (rgN (gRo σ c w) (dst (gRo σ c w) (min 16 c + 1) (min 16 c) (min 16 c)) (min 16 c + 1) (rgQ (gRo σ c w) (min 16 c + 1)) i)) else -(nI 20006) := by
        unfold rcV
        rw [show i - 1 + 1 = i by omega]
      rw [← e2]
      exact K2 _ (two_fin (c := c) La2 C2 A2.1 (R.scr (by omega) (fun j k a b _ d => g j k a b (by omega))))
    · refine two_same I0 (.int (-(nI 20002))) (fun Q HQ => ?_) (fun Q HQ => ?_)
      · exact r_X_ringOf_0 X.1 X.2.1 C.A.1.1 X.2.2.2.2.1 C.G.1 (fun q => absurd q (ar_n0 (by omega))) (fun _ q => absurd q (ar_nl hw (by omega))) (fun _ _ q => absurd ((op_x C).mpr o) q) (fun _ _ _ q => absurd q okx) (fun _ _ _ _ => HQ)
      · rw [A.put] at HQ ⊢
        exact r_M_ringOf_0 A.1.1 A.1.f1.1 A.1.f1.2 (fun q => absurd q (ar_n0' (by omega))) (fun _ q => absurd q (ar_nl' (by omega) (by omega))) (fun _ _ => mo_in hw) (fun _ _ q => absurd ((op_m A.1 R.1.1 hw).mpr o) q) (fun _ _ _ q => absurd q okx) (fun _ _ _ _ => HQ)
  · refine two_same I0 (.int (-(nI 20001))) (fun Q HQ => ?_) (fun Q HQ => ?_)
    · have bad : ¬ v < 0 → ¬ nI 8 ≤ v → ((hG h 2 3 >>> (v &&& 31)) &&& nI 1) = nI 1 → False := fun a b d => by
        obtain ⟨w, hw, rfl⟩ := ar_ex (by omega) a b
        exact ok ⟨w, hw, rfl, (op_x C).mp d⟩
      exact r_X_ringOf_0 X.1 X.2.1 C.A.1.1 X.2.2.2.2.1 C.G.1 (fun _ => HQ) (fun _ _ => HQ) (fun _ _ _ => HQ) (fun a b d => (bad a b d).elim) (fun a b d => (bad a b d).elim)
    · rw [A.put] at HQ ⊢
      have bad : ¬ v < nI 0 → ¬ nI 7 < v → (hG (mpt h 103 μ) 104 ((nI 36 + (nI 40 * v)) + (nI 39)).toNatClampNeg) = nI 1 → False := fun a b d => by
        obtain ⟨w, hw, rfl⟩ := ar_ex' (by omega) a b
        exact ok ⟨w, hw, rfl, (op_m A.1 R.1.1 hw).mp d⟩
      refine r_M_ringOf_0 A.1.1 A.1.f1.1 A.1.f1.2 (fun _ => HQ) (fun _ _ => HQ) (fun a b => ?_) (fun _ _ _ => HQ) (fun a b d => (bad a b d).elim) (fun a b d => (bad a b d).elim)
      obtain ⟨w, hw, rfl⟩ := ar_ex' (by omega) a b
      exact mo_in hw
/-- the graph of the kept commits -/
def gRk (σ : sn_V) (c : Nat) : Nat → Nat → Bool := gR σ (min 16 c) (nrC c (min 16 c)) (nnC c (min 16 c))
def gOk (σ : sn_V) (c : Nat) : Nat → Nat → Bool := gO σ (min 16 c) (nrC c (min 16 c)) (nnC c (min 16 c))
theorem two_inRings {L : Nat} {scr : Nat → Int32} {B : Nat} {h : sn_H} (I : Inv B L scr h) (hB : B < 2 ^ 29) : Two L scr B 56 146 [some (.ref 1)] [some (.ref 103)] h := by
  obtain ⟨La, c, σ, s, st, n, tx, μ, C, A, R⟩ := I
  have X := C.X
  have S := C.G
  have hc : c < 2 ^ 30 := by have := R.1.2; omega
  have hn : min 16 c ≤ 16 := Nat.min_le_left _ _
  obtain ⟨γ0, e⟩ := grA h S
  intro Q K
  refine r_X_inRings_0 X.1 X.2.2.2.2.1 X.2.1 S.1 ?_
  rw [e]
  refine s_G_load S C.A (Or.inl (by omega)) R.1.1.c1 hc (fun γ1 G1 => ?_)
  refine r_X_inRings_11 X.1 X.2.2.2.2.1 S.1 ?_
  refine s_G_countNodesInRings (R := gRk σ c) S (by omega) G1.1 (fun x j hx hj => ((G1.2 x hx).2.2.1 j hj).trans gR_iff.symm) (fun γ2 f => r_X_inRings_18 ?_)
  obtain ⟨C2, f⟩ := C.gr (γ := γ2)
  refine K _ _ (fun Q2 K2 => ?_)
  have A2 := f.Mo A (by omega)
  have La2 := f.La La (by omega)
  rw [A2.put]
  refine r_M_inRings_0 A2.1.1 (s_M_ringsMany A2.1 hc R.1.1.c2 (fun μ' g => r_M_inRings_4 ?_))
  rw [gR_kept R.1.1 hc, rm_same hn (fun _ _ q => gR_lt q)]
  exact K2 _ (two_fin (c := c) La2 C2 A2.1 (R.scr (by omega) (fun j k a b _ d => g j k a b (by omega))))
theorem two_skews {L : Nat} {scr : Nat → Int32} {B : Nat} {h : sn_H} (I : Inv B L scr h) (hB : B < 2 ^ 29) : Two L scr B 61 152 [some (.ref 1)] [some (.ref 103), none, none, none] h := by
  obtain ⟨La, c, σ, s, st, n, tx, μ, C, A, R⟩ := I
  have X := C.X
  have S := C.G
  have hc : c < 2 ^ 30 := by have := R.1.2; omega
  have hn : min 16 c ≤ 16 := Nat.min_le_left _ _
  obtain ⟨γ0, e⟩ := grA h S
  intro Q K
  refine r_X_skews_0 X.1 X.2.2.2.2.1 X.2.1 S.1 ?_
  rw [e]
  refine s_G_load S C.A (Or.inl (by omega)) R.1.1.c1 hc (fun γ1 G1 => ?_)
  refine r_X_skews_11 X.1 X.2.2.2.2.1 S.1 ?_
  refine s_G_countSkewPairs (O := gOk σ c) S (by omega) G1.1 (fun x j hx hj => ((G1.2 x hx).2.2.2.1 j hj).trans gO_iff.symm) (r_X_skews_18 ?_)
  obtain ⟨C2, f⟩ := C.gr (γ := γ1)
  refine K _ _ (fun Q2 K2 => ?_)
  have A2 := f.Mo A (by omega)
  have La2 := f.La La (by omega)
  rw [A2.put]
  refine s_M_skews A2.1 hc R.1.1.c2 (fun μ' g => ?_)
  rw [gO_kept R.1.1 hc]
  exact K2 _ (two_fin (c := c) La2 C2 A2.1 (R.scr (by omega) (fun j k a b _ d => g j k a b (by omega))))
/-- the order -/
def orV (R : Nat → Nat → Bool) (c q i : Nat) : Int32 := if i < q then nI (nnC c (min 16 c) (odN R (min 16 c) i)) else -(nI 20006)
theorem or_same {R : Nat → Nat → Bool} {c q T i : Nat} {f : Nat → Int32} (hq : (q = min 16 c ∧ ∀ t, t < min 16 c → odN R (min 16 c) t < min 16 c) ∨ (q = 0 ∧ ∃ t, t < min 16 c ∧ (∀ u, u < t → odN R (min 16 c) u < min 16 c) ∧ odN R (min 16 c) t = min 16 c)) (hT : T ≤ min 16 c) (h1 : ∀ t, t < T → odN R (min 16 c) t < min 16 c) (h2 : odN R (min 16 c) T = min 16 c)
    (hf : ∀ t, t < T → f t = nI (mnN c (odN R (min 16 c) t))) : (if T = min 16 c ∧ i < T then f i else -(nI 20006)) = orV R c q i := by
  have hn : min 16 c ≤ 16 := Nat.min_le_left _ _
  unfold orV
  rw [od_same (f := fun i => nI (nnC c (min 16 c) (odN R (min 16 c) i))) hq hT h1 h2]
  by_cases w : T = min 16 c ∧ i < T
  · rw [if_pos w, if_pos w, hf i w.2]
    have := h1 i w.2
    unfold mnN nnC
    rw [if_neg (by omega)]
  · rw [if_neg w, if_neg w]
theorem two_orderAt {L : Nat} {scr : Nat → Int32} {B : Nat} {v : Int32} {h : sn_H} (I : Inv B L scr h) (hB : B < 2 ^ 29) : Two L scr B 58 149 [some (.ref 1), some (.int v)] [some (.ref 103), some (.int v)] h := by
  have I0 := I
  obtain ⟨La, c, σ, s, st, n, tx, μ, C, A, R⟩ := I
  have X := C.X
  have S := C.G
  have hc : c < 2 ^ 30 := by have := R.1.2; omega
  have hn : min 16 c ≤ 16 := Nat.min_le_left _ _
  by_cases ok : 0 ≤ v
  · obtain ⟨i, hi, rfl⟩ := nI_of (x := v) (Int32.not_lt.mpr ok)
    obtain ⟨γ0, e⟩ := grA h S
    intro Q K
    refine r_X_orderAt_0 X.1 X.2.2.2.2.1 X.2.1 S.1 (fun _ => ?_) (fun q => absurd ok q)
    rw [e]
    refine s_G_load S C.A (Or.inl (by omega)) R.1.1.c1 hc (fun γ1 G1 => ?_)
    refine r_X_orderAt_19 X.1 X.2.2.2.2.1 S.1 ?_
    refine s_G_findOrder (R := gRk σ c) (nn := nnC c (min 16 c)) S (by omega) G1.1 (fun x j hx hj => ((G1.2 x hx).2.2.1 j hj).trans gR_iff.symm) (fun j hj => (G1.2 j hj).2.1) (fun γ2 q f1 f2 f3 f4 => ?_)
    have q16 : q ≤ 16 := by rcases f3 with z | z <;> omega
    have e9 : hG (hpg h 92 γ2) 92 9 = nI q := by rw [hpg_get0]; exact f2
    obtain ⟨C2, f⟩ := C.gr (γ := γ2)
    have fin : Q (some (.int (orV (gRk σ c) c q i))) (hpg h 92 γ2) := by
      refine K _ _ (fun Q2 K2 => ?_)
      have A2 := f.Mo A (by omega)
      have La2 := f.La La (by omega)
      rw [A2.put]
      refine r_M_orderAt_0 A2.1.1 (fun _ => ?_) (fun z => absurd ok z)
      refine s_M_findOrder A2.1 hc R.1.1.c2 (fun μ' T g1 g2 g3 g4 g5 g6 => ?_)
      refine r_M_orderAt_12 A2.1.1 ?_
      refine s_M_orderOf (T := T) A2.1 hc (by rw [g1 1 0 (by omega) (by omega) (by omega)]; exact R.1.1.c2) g2 (by omega) hi (r_M_orderAt_17 ?_)
      rw [gR_kept R.1.1 hc] at g4 g5 g6
      rw [or_same (R := gRk σ c) f3 g3 g4 g5 g6]
      exact K2 _ (two_fin (c := c) La2 C2 A2.1 (R.scr (by omega) (fun j k a _ b d => g1 j k a b (by omega))))
    unfold orV at fin
    refine r_X_orderAt_26 X.1 X.2.2.2.2.1 S.1 S.f8.1 S.f8.2 (fun z => absurd z (ar_n0 hi)) (fun _ z => ?_) (fun _ z => ?_) (fun _ z => ?_)
    · rw [e9, nI_leI (by omega) hi] at z
      rw [if_neg (by omega)] at fin
      exact fin
    · rw [e9, nI_leI (by omega) hi] at z
      exact inb (by omega)
    · rw [e9, nI_leI (by omega) hi] at z
      rw [if_pos (by omega)] at fin
      rw [cl hi, hpg_get (by decide), f4 i (by omega)]
      exact fin
  · refine two_same I0 (.int (-(nI 20002))) (fun Q HQ => ?_) (fun Q HQ => ?_)
    · exact r_X_orderAt_0 X.1 X.2.2.2.2.1 X.2.1 S.1 (fun q => absurd q ok) (fun _ => HQ)
    · exact r_M_orderAt_0 A.1.1 (fun q => absurd q ok) (fun _ => HQ)
/-- the lowest policy that refuses -/
def rfV (σ : sn_V) (c w : Nat) : Nat → Nat → Int32
  | 0, _ => -(nI 20006)
  | m + 1, p => if wyC σ c w p = 0 then rfV σ c w m (p + 1) else nI p
theorem s_X_refusedLoop {h : sn_H} {c w : Nat} {σ : sn_V} {Q : Option Value → sn_H → Prop} (X : XS h) (S : GrS h 92) (A : StA h 2 σ) (hσ : σ 0 1 = nI c) (hc : c < 2 ^ 30) (hw : w < 8) : ∀ m p γ, p + m = 3 → (∀ γ, Q (some (.int (rfV σ c w m p))) (hpg h 92 γ)) → wpE 67 14 [some (.ref 1), some (.int (nI w)), none, some (.int (nI p))] [] (hpg h 92 γ) (0, 0) Q := by
  intro m
  induction m with
  | zero =>
    intro p γ hp H
    refine r_X_refusedBy_14 X.1 X.2.1 (fun _ => H γ) (fun z => absurd (nI_lt (by omega) (by omega)) z)
  | succ m ih =>
    intro p γ hp H
    refine r_X_refusedBy_14 X.1 X.2.1 (fun z => absurd z (nI_nlt (by omega) (by omega))) (fun _ => ?_)
    refine s_X_reason (h := hpg h 92 γ) X S (hpg_St A (Or.inl (by omega))) (by omega) hσ hc hw (by omega) (fun γ' => ?_)
    rw [hpg_hpg]
    have w4 := wyC_lt σ c w p
    refine r_X_refusedBy_29 (fun z => ?_) (fun z => ?_)
    · have z0 : wyC σ c w p = 0 := by rw [← nI_0] at z; exact (nI_eq (by omega) (by omega)).mp z
      rw [nI_s]
      refine ih (p + 1) γ' (by omega) (fun γ2 => ?_)
      have hh := H γ2
      unfold rfV at hh
      rw [if_pos z0] at hh
      exact hh
    · have hh := H γ'
      unfold rfV at hh
      rw [if_neg (fun q => z (by rw [q, nI_0]))] at hh
      exact hh
theorem s_M_refusedLoop {h : sn_H} {c w : Nat} {σ μ0 : sn_V} {Q : Option Value → sn_H → Prop} (S : MoS h 103) (R : Rel c σ (μ0 1)) (hc : c < 2 ^ 30) (hw : w < 8) (ho : bitP (σ 0 3) w) : ∀ m p μ, p + m = 3 → (∀ j k, j ≠ 5 → j ≠ 6 → ¬ (j = 0 ∧ k = 6) → μ j k = μ0 j k) → (∀ μ, (∀ j k, j ≠ 5 → j ≠ 6 → ¬ (j = 0 ∧ k = 6) → μ j k = μ0 j k) → Q (some (.int (rfV σ c w m p))) (mpt h 103 μ)) →
    wpE 158 14 [some (.ref 103), some (.int (nI w)), some (.int (nI p))] [] (mpt h 103 μ) (0, 0) Q := by
  intro m
  induction m with
  | zero =>
    intro p μ hp hμ H
    exact r_M_refusedBy_14 S.1 (fun _ => H μ hμ) (fun z => absurd (nI_lt (by omega) (by omega)) z)
  | succ m ih =>
    intro p μ hp hμ H
    have e1 : μ 1 = μ0 1 := funext fun k => hμ 1 k (by omega) (by omega) (by omega)
    have R1 : Rel c σ (μ 1) := by rw [e1]; exact R
    refine r_M_refusedBy_14 S.1 (fun z => absurd z (nI_nlt (by omega) (by omega))) (fun _ => ?_)
    refine s_M_whyRefused S hc R1.c2 hw (by omega) (fun μ' g => ?_)
    have hμ' : ∀ j k, j ≠ 5 → j ≠ 6 → ¬ (j = 0 ∧ k = 6) → μ' j k = μ0 j k := fun j k a b d => by rw [g j k a b d]; exact hμ j k a b d
    rw [wy_same R1 hc hw ho (by omega)]
    have w4 := wyC_lt σ c w p
    refine r_M_refusedBy_25 (fun z => ?_) (fun z => ?_)
    · rw [nI_le0 (by omega)] at z
      rw [nI_s]
      refine ih (p + 1) μ' (by omega) hμ' (fun μ2 g2 => ?_)
      have hh := H μ2 g2
      unfold rfV at hh
      rw [if_pos z] at hh
      exact hh
    · rw [nI_le0 (by omega)] at z
      have hh := H μ' hμ'
      unfold rfV at hh
      rw [if_neg z] at hh
      exact hh
theorem two_refusedBy {L : Nat} {scr : Nat → Int32} {B : Nat} {v : Int32} {h : sn_H} (I : Inv B L scr h) (hB : B < 2 ^ 29) : Two L scr B 67 158 [some (.ref 1), some (.int v), none, none] [some (.ref 103), some (.int v), none] h := by
  have I0 := I
  obtain ⟨La, c, σ, s, st, n, tx, μ, C, A, R⟩ := I
  have X := C.X
  have hc : c < 2 ^ 30 := by have := R.1.2; omega
  by_cases ok : ∃ w, w < 8 ∧ v = nI w ∧ bitP (σ 0 3) w
  · obtain ⟨w, hw, rfl, o⟩ := ok
    obtain ⟨γ0, e⟩ := grA h C.G
    intro Q K
    refine r_X_refusedBy_0 X.1 X.2.1 C.A.1.1 (fun q => absurd q (ar_n0 (by omega))) (fun _ q => absurd q (ar_nl hw (by omega))) (fun _ _ q => absurd ((op_x C).mpr o) q) (fun _ _ _ => ?_)
    rw [e]
    refine s_X_refusedLoop X C.G C.A R.1.1.c1 hc hw 3 0 γ0 rfl (fun γ => ?_)
    obtain ⟨C2, f⟩ := C.gr (γ := γ)
    refine K _ _ (fun Q2 K2 => ?_)
    have A2 := f.Mo A (by omega)
    have La2 := f.La La (by omega)
    rw [A2.put]
    refine r_M_refusedBy_0 A2.1.1 A2.1.f1.1 A2.1.f1.2 (fun q => absurd q (ar_n0' (by omega))) (fun _ q => absurd q (ar_nl' (by omega) (by omega))) (fun _ _ => mo_in hw) (fun _ _ q => absurd ((op_m A2.1 R.1.1 hw).mpr o) q) (fun _ _ _ => ?_)
    refine s_M_refusedLoop A2.1 R.1.1 hc hw o 3 0 μ rfl (fun _ _ _ _ _ => rfl) (fun μ' g => ?_)
    exact K2 _ (two_fin (c := c) La2 C2 A2.1 (R.scr (by omega) (fun j k a b _ d => g j k a b (by omega))))
  · refine two_same I0 (.int (-(nI 20001))) (fun Q HQ => ?_) (fun Q HQ => ?_)
    · refine r_X_refusedBy_0 X.1 X.2.1 C.A.1.1 (fun _ => HQ) (fun _ _ => HQ) (fun _ _ _ => HQ) (fun a b d => ?_)
      obtain ⟨w, hw, rfl⟩ := ar_ex (by omega) a b
      exact absurd ⟨w, hw, rfl, (op_x C).mp d⟩ ok
    · rw [A.put] at HQ ⊢
      refine r_M_refusedBy_0 A.1.1 A.1.f1.1 A.1.f1.2 (fun _ => HQ) (fun _ _ => HQ) (fun a b => ?_) (fun _ _ _ => HQ) (fun a b d => ?_)
      · obtain ⟨w, hw, rfl⟩ := ar_ex' (by omega) a b
        exact mo_in hw
      · obtain ⟨w, hw, rfl⟩ := ar_ex' (by omega) a b
        exact absurd ⟨w, hw, rfl, (op_m A.1 R.1.1 hw).mp d⟩ ok
