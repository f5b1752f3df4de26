/-! ===== the class's and the Model's constructors; the law from its entry ===== -/
def xP (j : Nat) : Nat := (sn_nth [2, 13, 24, 92, 101, 103] j).getD 0
def ScZ (h : sn_H) : Prop := hK h 101 = (0, 4, 2) ∧ hR h 101 0 = some 102 ∧ hK h 102 = (2, 0, 80) ∧ hG h 101 1 = 0
/-- the objects of the class, i of them -/
def XO (h : sn_H) (i : Nat) : Prop := (1 ≤ i → StA h 2 zV) ∧ (2 ≤ i → StA h 13 zV) ∧ (3 ≤ i → HiX h 24 6) ∧ (4 ≤ i → GrS h 92) ∧ (5 ≤ i → ScZ h)
/-- the links of the class, i of them -/
def XL (h : sn_H) (i : Nat) : Prop := hK h 1 = (0, 0, 5) ∧ ∀ j, j < i → hR h 1 j = some (xP j)
theorem Fx.Hi {e n : Nat} {h h' : sn_H} (f : Fx e n h h') {p : Nat} (X : HiX h p 6) (hb : p + 68 ≤ n) (he : e < p ∨ p + 68 ≤ e) : HiX h' p 6 :=
  ⟨(f p (by omega)).1.trans X.1, (f.R' (by omega) (by omega) 0).trans X.2.1, (f _ (by omega)).1.trans X.2.2.1, fun k => ((f p (by omega)).2.1 k).trans (X.2.2.2.1 k), fun j hj => ⟨(f.R' (by omega) (by omega) j).trans (X.2.2.2.2 j hj).1, f.St (X.2.2.2.2 j hj).2 (by unfold hiP; omega) (by unfold hiP; omega)⟩⟩
theorem Fx.Sc {e n : Nat} {h h' : sn_H} (f : Fx e n h h') (X : ScZ h) (hb : 103 ≤ n) (he : e < 101 ∨ 103 ≤ e) : ScZ h' :=
  ⟨(f _ (by omega)).1.trans X.1, (f.R' (by omega) (by omega) 0).trans X.2.1, (f _ (by omega)).1.trans X.2.2.1, ((f 101 (by omega)).2.1 1).trans X.2.2.2⟩
theorem XO.fx {e n i : Nat} {h h' : sn_H} (X : XO h i) (f : Fx e n h h') (hi : i < 6) (hn : xP i ≤ n) (he : e = 1 ∨ xP i ≤ e) : XO h' i := by
  have q1 : ∀ i, i < 6 → 1 ≤ i → 13 ≤ xP i := by decide
  have q2 : ∀ i, i < 6 → 2 ≤ i → 24 ≤ xP i := by decide
  have q3 : ∀ i, i < 6 → 3 ≤ i → 92 ≤ xP i := by decide
  have q4 : ∀ i, i < 6 → 4 ≤ i → 101 ≤ xP i := by decide
  have q5 : ∀ i, i < 6 → 5 ≤ i → 103 ≤ xP i := by decide
  refine ⟨fun q => ?_, fun q => ?_, fun q => ?_, fun q => ?_, fun q => ?_⟩
  · have := q1 i hi q; exact f.St (X.1 q) (by omega) (by omega)
  · have := q2 i hi q; exact f.St (X.2.1 q) (by omega) (by omega)
  · have := q3 i hi q; exact f.Hi (X.2.2.1 q) (by omega) (by omega)
  · have := q4 i hi q; exact f.Gr (X.2.2.2.1 q) (by omega) (by omega)
  · have := q5 i hi q; exact f.Sc (X.2.2.2.2 q) (by omega) (by omega)
theorem XL.fx {e n i : Nat} {h h' : sn_H} (X : XL h i) (f : Fx e n h h') (hn : 1 < n) (he : e ≠ 1) : XL h' i :=
  ⟨(f 1 hn).1.trans X.1, fun j hj => (f.R' hn (by omega) j).trans (X.2 j hj)⟩
theorem XL.sR {h : sn_H} {i : Nat} (X : XL h i) : XL (setR h 1 i (xP i)) (i + 1) :=
  ⟨X.1, fun j hj => by
    by_cases e : j = i
    · subst e; exact if_pos ⟨rfl, rfl⟩
    · exact (if_neg (fun z => e z.2)).trans (X.2 j (by omega))⟩
theorem s_X_init {h : sn_H} (hn : hN h = 2) (hk : hK h 1 = (0, 0, 5)) {Q : Option Value → sn_H → Prop} (K : ∀ h', XO h' 5 → XL h' 5 → hN h' = 103 → Fx 1 1 h h' → Q none h') : wpE 0 0 [some (.ref 1)] [] h (0, 0) Q := by
  have X0 : XL h 0 := ⟨hk, fun j hj => absurd hj (by omega)⟩
  have O0 : XO h 0 := ⟨fun q => absurd q (by omega), fun q => absurd q (by omega), fun q => absurd q (by omega), fun q => absurd q (by omega), fun q => absurd q (by omega)⟩
  have F0 : Fx 1 1 h h := Fx.rf _ _ _
  refine r_X_init_0 ?_
  rw [hn]
  refine r_X_init_8 ?_
  have K0 : hK (allocH h (0, 1, 14)) 2 = (0, 1, 14) := by rw [← hn]; exact al_K _ _
  have Z0 : ∀ k, hG (allocH h (0, 1, 14)) 2 k = 0 := fun k => by rw [← hn]; exact al_G _ _ k
  refine s_S_init (b := 2) (by rw [al_N, hn]) K0 (fun h1 B0 => ?_)
  have M0 : hN h1 = 13 := B0.1
  have E0 : Fx 2 2 h h1 := B0.fx (by omega) (Nat.le_refl _)
  have P0 := X0.fx E0 (by omega) (by omega)
  have Y0 := O0.fx E0 (by omega) (by decide) (Or.inr (by decide))
  have W0 : XO h1 1 := ⟨fun _ => B0.S K0 Z0, fun q => absurd q (by omega), fun q => absurd q (by omega), fun q => absurd q (by omega), fun q => absurd q (by omega)⟩
  refine r_X_init_12 P0.1 ?_
  have X1 : XL (setR h1 1 0 2) 1 := P0.sR
  have O1 : XO (setR h1 1 0 2) 1 := W0.fx (Fx.sR (n := 200)) (by omega) (by decide) (Or.inl rfl)
  have F1 : Fx 1 1 h (setR h1 1 0 2) := F0.tr (((E0.le (by omega)).ch (by omega)).tr Fx.sR)
  have N1 : hN (setR h1 1 0 2) = 13 := M0
  rw [N1]
  generalize setR h1 1 0 2 = g1 at X1 O1 F1 N1 ⊢
  refine r_X_init_19 ?_
  have K1 : hK (allocH g1 (0, 1, 14)) 13 = (0, 1, 14) := by rw [← N1]; exact al_K _ _
  have Z1 : ∀ k, hG (allocH g1 (0, 1, 14)) 13 k = 0 := fun k => by rw [← N1]; exact al_G _ _ k
  refine s_S_init (b := 13) (by rw [al_N, N1]) K1 (fun h2 B1 => ?_)
  have M1 : hN h2 = 24 := B1.1
  have E1 : Fx 13 13 g1 h2 := B1.fx (by omega) (Nat.le_refl _)
  have P1 := X1.fx E1 (by omega) (by omega)
  have Y1 := O1.fx E1 (by omega) (by decide) (Or.inr (by decide))
  have W1 : XO h2 2 := ⟨fun _ => Y1.1 (by omega), fun _ => B1.S K1 Z1, fun q => absurd q (by omega), fun q => absurd q (by omega), fun q => absurd q (by omega)⟩
  refine r_X_init_23 P1.1 ?_
  have X2 : XL (setR h2 1 1 13) 2 := P1.sR
  have O2 : XO (setR h2 1 1 13) 2 := W1.fx (Fx.sR (n := 200)) (by omega) (by decide) (Or.inl rfl)
  have F2 : Fx 1 1 h (setR h2 1 1 13) := F1.tr (((E1.le (by omega)).ch (by omega)).tr Fx.sR)
  have N2 : hN (setR h2 1 1 13) = 24 := M1
  rw [N2]
  generalize setR h2 1 1 13 = g2 at X2 O2 F2 N2 ⊢
  refine r_X_init_30 ?_
  have K2 : hK (allocH g2 (0, 2, 3)) 24 = (0, 2, 3) := by rw [← N2]; exact al_K _ _
  have Z2 : ∀ k, hG (allocH g2 (0, 2, 3)) 24 k = 0 := fun k => by rw [← N2]; exact al_G _ _ k
  refine s_H_init (p := 24) (by rw [al_N, N2]) K2 Z2 (fun h3 B2 M2 D2 => ?_)
  have E2 : Fx 24 24 g2 h3 := (Fx.al (by omega) : Fx 24 24 g2 (allocH g2 (0, 2, 3))).tr D2
  have P2 := X2.fx E2 (by omega) (by omega)
  have Y2 := O2.fx E2 (by omega) (by decide) (Or.inr (by decide))
  have W2 : XO h3 3 := ⟨fun _ => Y2.1 (by omega), fun _ => Y2.2.1 (by omega), fun _ => B2, fun q => absurd q (by omega), fun q => absurd q (by omega)⟩
  refine r_X_init_34 P2.1 ?_
  have X3 : XL (setR h3 1 2 24) 3 := P2.sR
  have O3 : XO (setR h3 1 2 24) 3 := W2.fx (Fx.sR (n := 200)) (by omega) (by decide) (Or.inl rfl)
  have F3 : Fx 1 1 h (setR h3 1 2 24) := F2.tr (((E2.le (by omega)).ch (by omega)).tr Fx.sR)
  have N3 : hN (setR h3 1 2 24) = 92 := M2
  rw [N3]
  generalize setR h3 1 2 24 = g3 at X3 O3 F3 N3 ⊢
  refine r_X_init_41 ?_
  have K3 : hK (allocH g3 (0, 3, 10)) 92 = (0, 3, 10) := by rw [← N3]; exact al_K _ _
  have Z3 : ∀ k, hG (allocH g3 (0, 3, 10)) 92 k = 0 := fun k => by rw [← N3]; exact al_G _ _ k
  refine s_G_init (b := 92) (by rw [al_N, N3]) K3 (fun h4 B3 => ?_)
  have M3 : hN h4 = 101 := B3.1
  have E3 : Fx 92 92 g3 h4 := B3.fx (by omega) (Nat.le_refl _)
  have P3 := X3.fx E3 (by omega) (by omega)
  have Y3 := O3.fx E3 (by omega) (by decide) (Or.inr (by decide))
  have W3 : XO h4 4 := ⟨fun _ => Y3.1 (by omega), fun _ => Y3.2.1 (by omega), fun _ => Y3.2.2.1 (by omega), fun _ => B3.G K3, fun q => absurd q (by omega)⟩
  refine r_X_init_45 P3.1 ?_
  have X4 : XL (setR h4 1 3 92) 4 := P3.sR
  have O4 : XO (setR h4 1 3 92) 4 := W3.fx (Fx.sR (n := 200)) (by omega) (by decide) (Or.inl rfl)
  have F4 : Fx 1 1 h (setR h4 1 3 92) := F3.tr (((E3.le (by omega)).ch (by omega)).tr Fx.sR)
  have N4 : hN (setR h4 1 3 92) = 101 := M3
  rw [N4]
  generalize setR h4 1 3 92 = g4 at X4 O4 F4 N4 ⊢
  refine r_X_init_52 ?_
  have K4 : hK (allocH g4 (0, 4, 2)) 101 = (0, 4, 2) := by rw [← N4]; exact al_K _ _
  have Z4 : ∀ k, hG (allocH g4 (0, 4, 2)) 101 k = 0 := fun k => by rw [← N4]; exact al_G _ _ k
  refine s_T_init (b := 101) (by rw [al_N, N4]) K4 (fun h5 B4 => ?_)
  have M4 : hN h5 = 103 := B4.1
  have E4 : Fx 101 101 g4 h5 := B4.fx (by omega) (Nat.le_refl _)
  have P4 := X4.fx E4 (by omega) (by omega)
  have Y4 := O4.fx E4 (by omega) (by decide) (Or.inr (by decide))
  have W4 : XO h5 5 := ⟨fun _ => Y4.1 (by omega), fun _ => Y4.2.1 (by omega), fun _ => Y4.2.2.1 (by omega), fun _ => Y4.2.2.2.1 (by omega), fun _ => ⟨(B4.2.1 101 (by omega)).1.trans K4, (B4.2.2 0 _ _ rfl).1, (B4.2.2 0 _ _ rfl).2.1, ((B4.2.1 101 (by omega)).2.1 1).trans (Z4 1)⟩⟩
  refine r_X_init_56 P4.1 ?_
  have X5 : XL (setR h5 1 4 101) 5 := P4.sR
  have O5 : XO (setR h5 1 4 101) 5 := W4.fx (Fx.sR (n := 200)) (by omega) (by decide) (Or.inl rfl)
  have F5 : Fx 1 1 h (setR h5 1 4 101) := F4.tr (((E4.le (by omega)).ch (by omega)).tr Fx.sR)
  have N5 : hN (setR h5 1 4 101) = 103 := M4
  exact K _ O5 X5 N5 F5
theorem Rel_z : Rel 0 zV (fun _ => 0) := by
  refine ⟨⟨rfl, rfl⟩, ⟨0, by omega, rfl, rfl⟩, fun _ _ => rfl, rfl, fun _ _ => ⟨rfl, rfl⟩, fun _ _ => ⟨rfl, rfl⟩, ⟨0, by omega, rfl⟩, fun i hi => ?_, fun n a1 a2 a3 => by omega⟩
  have nb : ∀ i, i < 8 → ¬ bitP (0 : Int32) i := by decide
  exact ⟨by rw [decide_eq_false (show ¬ bitP (zV 0 3) i from nb i hi)]; rfl, fun q => absurd q (nb i hi)⟩
theorem lw_start {L : Nat} {scr : Nat → Int32} (hL : L ≤ 2048) {h : sn_H} (hn : hN h = 1) (La : LaS h L scr) {Q : Option Value → sn_H → Prop} (HQ : ∀ h, Q (some (.int (nI 1))) h) : wpE 174 0 [some (.ref 0), none, none, none] [] h (0, 0) Q := by
  refine r_L_law_0 ?_
  rw [hn]
  refine r_L_law_3 ?_
  have k1 : hK (allocH h (0, 0, 5)) 1 = (0, 0, 5) := by
    have := al_K h (0, 0, 5)
    rwa [hn] at this
  refine s_X_init (by rw [al_N, hn]) k1 (fun h1 O X N F => ?_)
  refine r_L_law_7 ?_
  rw [N]
  refine r_L_law_11 ?_
  have k2 : hK (allocH h1 (0, 5, 16)) 103 = (0, 5, 16) := by rw [← N]; exact al_K _ _
  have z2 : ∀ k, hG (allocH h1 (0, 5, 16)) 103 k = 0 := fun k => by rw [← N]; exact al_G _ _ k
  refine s_M_init (by rw [al_N, N]) k2 (fun h2 A2 => ?_)
  have E : Fx 103 103 h1 h2 := A2.fx N.symm (Nat.le_refl _)
  have O2 := O.fx E (by omega) (by decide) (Or.inr (by decide))
  have X2 := X.fx E (by omega) (by omega)
  have M2 := A2.M k2 z2
  have G0 : Fx 1 1 h h2 := (Fx.al (by omega) : Fx 1 1 h (allocH h (0, 0, 5))).tr (F.tr ((E.le (by omega)).ch (by omega)))
  have La2 : LaS h2 L scr := ⟨(G0 0 (by omega)).1.trans La.1, fun k => ((G0 0 (by omega)).2.1 k).trans (La.2 k)⟩
  refine r_L_law_15 ?_
  have n2 : hN h2 = 111 := A2.1
  refine lw_loop (scr := scr) hL HQ 600 0 h2 (by omega) (by omega) ?_ (by omega)
  have S6 : ∀ i, i < 6 → StA h2 (hiP 24 i) zV := fun i hi => ((O2.2.2.1 (by omega)).2.2.2.2 i hi).2
  have Hx := O2.2.2.1 (by omega)
  have Sc := O2.2.2.2.2 (by omega)
  refine ⟨La2, 0, zV, 0, fun _ => zV, 0, fun _ => 0, zV, ⟨⟨X2.1, X2.2 0 (by omega), X2.2 1 (by omega), X2.2 2 (by omega), X2.2 3 (by omega), X2.2 4 (by omega)⟩, ⟨O2.1 (by omega), zV_Z⟩, ⟨zV, O2.2.1 (by omega), zV_Z⟩, ⟨0, ⟨Hx.1, Hx.2.1, Hx.2.2.1, fun i hi => ⟨(Hx.2.2.2.2 i hi).1, (S6 i hi).1⟩⟩, ⟨Hx.2.2.2.1 1, Hx.2.2.2.1 2, by omega, by omega⟩, fun k hk => absurd hk (by omega), fun i hi => ⟨zV, S6 i hi, zV_Z⟩⟩, O2.2.2.2.1 (by omega), ⟨Sc.1, Sc.2.1, Sc.2.2.1, Sc.2.2.2, fun i hi => absurd hi (by omega)⟩⟩, M2, ⟨Rel_z, by omega⟩, ⟨by omega, rfl⟩, fun k hk => absurd hk (by omega), ⟨by omega, rfl⟩, fun i hi => absurd hi (by omega)⟩
