/-! ===== the law's same: constraints and counts ===== -/
theorem WD.k1 {L : Nat} {scr : Nat → Int32} {h : sn_H} {σ : sn_V} {q cc v t : Nat → Int32} (D : WD L scr h σ q cc v t) : hK h 1 = (0, 0, 5) := by
  obtain ⟨s, st, C⟩ := D.2.1
  exact C.X.1
theorem WD.gq {L : Nat} {scr : Nat → Int32} {h : sn_H} {σ : sn_V} {q cc v t : Nat → Int32} (D : WD L scr h σ q cc v t) {k : Nat} (hk : k < 100) : hG h 103 (nI k).toNatClampNeg = q k := by
  rw [cl (by omega), D.2.2.2.1.2]
theorem WD.gt {L : Nat} {scr : Nat → Int32} {h : sn_H} {σ : sn_V} {q cc v t : Nat → Int32} (D : WD L scr h σ q cc v t) {k : Nat} (hk : k < 100) : hG h 106 (nI k).toNatClampNeg = t k := by
  rw [cl (by omega)]; exact D.2.2.2.2.2.2.2 k
theorem WD.gc {L : Nat} {scr : Nat → Int32} {h : sn_H} {σ : sn_V} {q cc v t : Nat → Int32} (D : WD L scr h σ q cc v t) {k : Nat} (hk : k < 100) : hG h 104 (nI k).toNatClampNeg = cc k := by
  rw [cl (by omega)]; exact D.2.2.2.2.1.2 k
theorem WD.kq {L : Nat} {scr : Nat → Int32} {h : sn_H} {σ : sn_V} {q cc v t : Nat → Int32} (D : WD L scr h σ q cc v t) : hK h 103 = (1, 0, 12) := D.2.2.2.1.1
theorem WD.kc {L : Nat} {scr : Nat → Int32} {h : sn_H} {σ : sn_V} {q cc v t : Nat → Int32} (D : WD L scr h σ q cc v t) : hK h 104 = (1, 0, 48) := D.2.2.2.2.1.1
theorem WD.kv {L : Nat} {scr : Nat → Int32} {h : sn_H} {σ : sn_V} {q cc v t : Nat → Int32} (D : WD L scr h σ q cc v t) : hK h 105 = (1, 0, 64) := D.2.2.2.2.2.1.1
theorem WD.kt {L : Nat} {scr : Nat → Int32} {h : sn_H} {σ : sn_V} {q cc v t : Nat → Int32} (D : WD L scr h σ q cc v t) : hK h 106 = (1, 0, 28) := D.2.2.2.2.2.2.1
section
variable {L : Nat} {scr : Nat → Int32} {σ : sn_V} {q cc v t : Nat → Int32} {c c1 c2 : Nat} {Q : Option Value → sn_H → Prop}
theorem t_counts {h : sn_H} (D : WD L scr h σ q cc v t) (R : PR c σ q cc v t) (l1 : c1 ≤ 80) (l2 : c2 ≤ 1500) (H : ∀ h', WD L scr h' σ q cc v t → Q (some (.int (nI 1))) h') :
    wpE 59 860 [some (.ref 1), some (.ref 103), none, none, none, some (.int (nI (opN σ 4))), some (.int (nI (rcN (gRk σ c) c))), some (.int (nI (smN (skN (gOk σ c) c) c 0))), none, none, none, none, none, none, none, none] [.int (cnV σ c 0)] h (c1, c2) Q := by
  have c15 := R.c15
  obtain ⟨p, p1, p2, p3⟩ := R.pol
  obtain ⟨n1, n2⟩ := R.cnt
  have e0 : cnV σ c 0 = hG h 103 (nI 0).toNatClampNeg := by rw [D.gq (by omega), R.q0]; rfl
  have e1 : cnV σ c 1 = nI (opN σ 4) := R.bc
  have e2 : cnV σ c 2 = hG h 103 (nI 1).toNatClampNeg := by rw [D.gq (by omega), p3, ← p2]; rfl
  have e3 : cnV σ c 3 = hG h 103 (nI 0).toNatClampNeg := by rw [D.gq (by omega), R.q0]; show nI (min 16 c) = _; rw [R.m16]
  have e4 : cnV σ c 4 = hG h 103 (nI 2).toNatClampNeg := by rw [D.gq (by omega)]; exact (n1 0 (by omega)).symm
  have e5 : cnV σ c 5 = hG h 103 (nI 3).toNatClampNeg := by rw [D.gq (by omega)]; exact (n1 1 (by omega)).symm
  have e6 : cnV σ c 6 = hG h 103 (nI 4).toNatClampNeg := by rw [D.gq (by omega)]; exact (n1 2 (by omega)).symm
  have e7 : cnV σ c 7 = hG h 103 (nI 5).toNatClampNeg := by rw [D.gq (by omega)]; exact n2.symm
  refine r_L_same_860 D.kq D.k1 (inb (by omega)) (fun y => absurd e0 y) (fun _ => l1) (fun _ => l2) (fun _ => x_count D R (j := 1) (by omega) ?_)
  refine r_L_same_871 D.k1 (fun y => absurd e1 y) (fun _ => l1) (fun _ => l2) (fun _ => x_count D R (j := 2) (by omega) ?_)
  refine r_L_same_881 D.kq D.k1 (inb (by omega)) (fun y => absurd e2 y) (fun _ => l1) (fun _ => l2) (fun _ => x_count D R (j := 3) (by omega) ?_)
  refine r_L_same_892 D.kq D.k1 (inb (by omega)) (fun y => absurd e3 y) (fun _ => l1) (fun _ => l2) (fun _ => x_count D R (j := 4) (by omega) ?_)
  refine r_L_same_903 D.kq D.k1 (inb (by omega)) (fun y => absurd e4 y) (fun _ => l1) (fun _ => l2) (fun _ => x_count D R (j := 5) (by omega) ?_)
  refine r_L_same_914 D.kq D.k1 (inb (by omega)) (fun y => absurd e5 y) (fun _ => l1) (fun _ => l2) (fun _ => x_count D R (j := 6) (by omega) ?_)
  refine r_L_same_926 D.kq D.k1 (inb (by omega)) (fun y => absurd e6 y) (fun _ => l1) (fun _ => l2) (fun _ => x_count D R (j := 7) (by omega) ?_)
  refine r_L_same_938 D.kq D.k1 (inb (by omega)) (fun y => absurd e7 y) (fun _ => l1) (fun _ => l2) (fun _ => x_inRings D R (fun h1 D1 _ => ?_))
  refine r_L_same_948 D1.k1 (fun y => absurd rfl y) (fun _ => l1) (fun _ => l2) (fun _ => x_skews D1 R (fun h2 D2 _ => ?_))
  refine r_L_same_957 D2.kq D2.k1 (fun y => absurd rfl y) (fun _ => inb (by omega)) (fun _ => l1) (fun _ => l2) (fun _ => ?_)
  rw [D2.gq (by omega), R.q0, nI_s]
  refine x_ofCommitNo D2 R ?_
  exact r_L_same_972 (fun y => absurd rfl y) (fun _ => H h2 D2)
theorem t_holds {h : sn_H} (D : WD L scr h σ q cc v t) (R : PR c σ q cc v t) (l1 : c1 ≤ 80) (l2 : c2 ≤ 1500) (H : ∀ h', WD L scr h' σ q cc v t → Q (some (.int (nI 1))) h') : ∀ m j, j + m = 3 →
    wpE 59 821 [some (.ref 1), some (.ref 103), some (.ref 104), some (.ref 105), some (.ref 106), some (.int (nI (opN σ 4))), some (.int (nI (rcN (gRk σ c) c))), some (.int (nI (smN (skN (gOk σ c) c) c 0))), none, none, some (.int (nI j)), none, none, none, none, none] [] h (c1, c2) Q := by
  intro m
  induction m with
  | zero =>
    intro j hj
    have e : j = 3 := hj
    subst e
    refine r_L_same_821 D.k1 (fun _ => l1) (fun _ => l2) (fun _ => x_count D R (j := 0) (by omega) ?_) (fun y => absurd (Int32.le_refl _) y) (fun y => absurd (Int32.le_refl _) y) (fun y => absurd (Int32.le_refl _) y)
    exact t_counts D R l1 l2 H
  | succ m ih =>
    intro j hj
    have nl : ¬ nI 3 ≤ nI j := nI_ge (by omega) (by omega)
    refine r_L_same_821 D.k1 (fun y => absurd y nl) (fun y => absurd y nl) (fun y => absurd y nl) (fun _ => l1) (fun _ => l2) (fun _ => x_holds D (by omega) ?_)
    refine r_L_same_833 l1 l2 (s_L_holds R D.2.2 (by omega) ?_)
    refine r_L_same_844 (fun _ => ?_) (fun y => absurd rfl y)
    rw [nI_s]
    exact ih (j + 1) (by omega)
end
