/-! ===== the world of class and law; the class's calls in it ===== -/
theorem CI.fx {e : Nat} {h h' : sn_H} {σ : sn_V} {s : Nat} {st : Nat → sn_V} {n : Nat} {tx : Nat → Nat} (C : CI h σ s st n tx) (f : Fx e 103 h h') (he : 103 ≤ e) : CI h' σ s st n tx := by
  have fR : ∀ {p}, p < 103 → ∀ k, hR h' p k = hR h p k := fun {p} hp k => f.R' hp (by omega) k
  have fK : ∀ {p}, p < 103 → hK h' p = hK h p := fun {p} hp => (f p hp).1
  have fG : ∀ {p}, p < 103 → ∀ k, hG h' p k = hG h p k := fun {p} hp => (f p hp).2.1
  obtain ⟨⟨x1, x2, x3, x4, x5, x6⟩, ⟨a1, a2⟩, ⟨φ, p1, p2⟩, ⟨x, ⟨i1, i2, i3, i4⟩, ⟨j1, j2, j3⟩, k1, k2⟩, g, ⟨t1, t2, t3, t4, t5⟩⟩ := C
  refine ⟨⟨(fK (by omega)).trans x1, (fR (by omega) _).trans x2, (fR (by omega) _).trans x3, (fR (by omega) _).trans x4, (fR (by omega) _).trans x5, (fR (by omega) _).trans x6⟩, ⟨f.St a1 (by omega) (by omega), a2⟩, ⟨φ, f.St p1 (by omega) (by omega), p2⟩, ⟨x, ⟨(fK (by omega)).trans i1, (fR (by omega) _).trans i2, (fK (by omega)).trans i3, fun i hi => ⟨(fR (by omega) _).trans (i4 i hi).1, ?_⟩⟩, ⟨(fG (by omega) _).trans j1, (fG (by omega) _).trans j2, j3⟩, fun k hk => ⟨f.St (k1 k hk).1 ?_ ?_, (k1 k hk).2⟩, fun i hi => ?_⟩, f.Gr g (by omega) (by omega), ⟨(fK (by omega)).trans t1, (fR (by omega) _).trans t2, (fK (by omega)).trans t3, (fG (by omega) _).trans t4, fun i hi => (fG (by omega) _).trans (t5 i hi)⟩⟩
  · obtain ⟨τ, q1, _⟩ := k2 i hi
    have : StA h' (hiP 24 i) τ := f.St q1 (by unfold hiP; omega) (by unfold hiP; omega)
    exact this.1
  · unfold hiP; omega
  · unfold hiP; omega
  · obtain ⟨τ, q1, q2⟩ := k2 i hi
    exact ⟨τ, f.St q1 (by unfold hiP; omega) (by unfold hiP; omega), q2⟩
def WD (L : Nat) (scr : Nat → Int32) (h : sn_H) (σ : sn_V) (q cc v t : Nat → Int32) : Prop := LaS h L scr ∧ (∃ s st, CI h σ s st 0 (fun _ => 0)) ∧ W4 h 103 q cc v t
theorem frm.A1 {h h' : sn_H} (f : frm 1 102 h h') {p n : Nat} {g : Nat → Int32} (A : Ar1 h p n g) (hp : 102 < p) : Ar1 h' p n g := ⟨(f.K _).trans A.1, fun k => (f.2.2.2 _ _ (by omega)).trans (A.2 k)⟩
theorem frm.N {lo hi : Nat} {h h' : sn_H} (f : frm lo hi h h') : hN h' = hN h := f.1
theorem frm.BE {h h' : sn_H} (f : frm 1 102 h h') {p : Nat} {R : Nat → Nat → Bool} (A : BE h p R) (hp : 102 < p) : BE h' p R := ⟨(f.K _).trans A.1, fun a b ha hb => by rw [f.2.2.2 p a (by omega)]; exact A.2 a b ha hb⟩
theorem frm.DA {h h' : sn_H} (f : frm 1 102 h h') {p : Nat} {D : Nat → Nat} (A : DA h p D) (hp : 102 < p) : DA h' p D := ⟨(f.K _).trans A.1, fun x hx => (f.2.2.2 p x (by omega)).trans (A.2 x hx)⟩
theorem frm.W4 {h h' : sn_H} (f : frm 1 102 h h') {z : Nat} {q cc v t : Nat → Int32} (W : W4 h z q cc v t) (hz : 102 < z) : W4 h' z q cc v t := ⟨by rw [f.N]; exact W.1, f.A1 W.2.1 (by omega), f.A1 W.2.2.1 (by omega), f.A1 W.2.2.2.1 (by omega), f.A1 W.2.2.2.2 (by omega)⟩
section
variable {L : Nat} {scr : Nat → Int32} {h : sn_H} {σ : sn_V} {q cc v t : Nat → Int32} {c : Nat} {Q : Option Value → sn_H → Prop}
theorem WD.x {h' : sn_H} {σ' : sn_V} (D : WD L scr h σ q cc v t) (f : frm 1 102 h h') (I : ∃ s st, CI h' σ' s st 0 (fun _ => 0)) : WD L scr h' σ' q cc v t := ⟨f.La D.1 (by omega), I, f.W4 D.2.2 (by omega)⟩
theorem Ch.fx {z : Nat} {h h' : sn_H} (a : Ch z h h') (hz : 103 ≤ z) (hn : 103 ≤ hN h) : Fx 103 103 h h' := fun p hp => by
  obtain ⟨a1, a2, a3⟩ := a.2 p (by omega)
  exact ⟨a1, a3 (by omega), fun _ => a2⟩
theorem Ch.A1 {z : Nat} {h h' : sn_H} (a : Ch z h h') {p n : Nat} {g : Nat → Int32} (A : Ar1 h p n g) (hp : p < hN h) (e : ¬ (z ≤ p ∧ p ≤ z + 3)) : Ar1 h' p n g := ⟨(a.2 p hp).1.trans A.1, fun k => ((a.2 p hp).2.2 e k).trans (A.2 k)⟩
theorem WD.ch {z : Nat} {h' : sn_H} (D : WD L scr h σ q cc v t) (a : Ch z h h') (hz : 107 ≤ z) : WD L scr h' σ q cc v t := by
  obtain ⟨La, ⟨s, st, C⟩, W⟩ := D
  have l := W.1
  refine ⟨⟨(a.2 0 (by omega)).1.trans La.1, fun k => ((a.2 0 (by omega)).2.2 (by omega) k).trans (La.2 k)⟩, ⟨s, st, C.fx (a.fx (by omega) (by omega)) (Nat.le_refl _)⟩, Nat.lt_of_lt_of_le l a.1, a.A1 W.2.1 (by omega) (by omega), a.A1 W.2.2.1 (by omega) (by omega), a.A1 W.2.2.2.1 (by omega) (by omega), a.A1 W.2.2.2.2 (by omega) (by omega)⟩
theorem WD.nw {h' : sn_H} (D : WD L scr h σ q cc v t) (w : Nw h h') : WD L scr h' σ q cc v t := D.ch (w.ch 107) (Nat.le_refl _)
/-- the law's arrays changed, the class's places not -/
theorem WD.ch4 {h' : sn_H} {q' cc' v' t' : Nat → Int32} (D : WD L scr h σ q cc v t) (a : Ch 103 h h') (W : W4 h' 103 q' cc' v' t') : WD L scr h' σ q' cc' v' t' := by
  obtain ⟨La, ⟨s, st, C⟩, W0⟩ := D
  have l := W0.1
  exact ⟨⟨(a.2 0 (by omega)).1.trans La.1, fun k => ((a.2 0 (by omega)).2.2 (by omega) k).trans (La.2 k)⟩, ⟨s, st, C.fx (a.fx (by omega) (by omega)) (Nat.le_refl _)⟩, W⟩
theorem WD.gr {γ : sn_V} (D : WD L scr h σ q cc v t) : WD L scr (hpg h 92 γ) σ q cc v t ∧ frm 1 102 h (hpg h 92 γ) := by
  obtain ⟨s, st, C⟩ := D.2.1
  obtain ⟨C2, f⟩ := C.gr (γ := γ)
  exact ⟨D.x f ⟨s, st, C2⟩, f⟩
theorem x_version {k : Nat} (D : WD L scr h σ q cc v t) (R : PR c σ q cc v t) (hk : k < 4) (H : Q (some (.int (nI (verN cc k c)))) h) : wpE 60 0 [some (.ref 1), some (.int (nI k))] [] h (0, 0) Q := by
  obtain ⟨s, st, C⟩ := D.2.1
  refine r_X_version_0 C.X.1 C.X.2.1 C.A.1.1 C.A.1.f8 C.A.1.k5 (fun y => absurd y (ar_n0 (by omega))) (fun _ y => absurd y (ar_nl (by omega) (by omega))) (fun _ _ => inb (by omega)) (fun _ _ => ?_)
  rw [cl (by omega : k < 2 ^ 31), C.A.2 5 (by decide) k, (R.val hk).2]
  exact H
theorem x_value {k : Nat} (D : WD L scr h σ q cc v t) (R : PR c σ q cc v t) (hk : k < 4) (H : Q (some (.int (valN cc v k c))) h) : wpE 61 0 [some (.ref 1), some (.int (nI k))] [] h (0, 0) Q := by
  obtain ⟨s, st, C⟩ := D.2.1
  refine r_X_value_0 C.X.1 C.X.2.1 C.A.1.1 C.A.1.f7 C.A.1.k4 (fun y => absurd y (ar_n0 (by omega))) (fun _ y => absurd y (ar_nl (by omega) (by omega))) (fun _ _ => inb (by omega)) (fun _ _ => ?_)
  rw [cl (by omega : k < 2 ^ 31), C.A.2 4 (by decide) k, (R.val hk).1]
  exact H
theorem x_ofNo {i : Nat} {x : Int32} (D : WD L scr h σ q cc v t) (hi : i < 4) (no : ¬ bitP (σ 0 3) i) (H : Q (some (.int (-(nI 20001)))) h) : wpE 62 0 [some (.ref 1), some (.int (nI i)), some (.int x), none] [] h (0, 0) Q := by
  obtain ⟨s, st, C⟩ := D.2.1
  have S := C.A.1
  have o : ¬ (((hG h 2 3) >>> (nI i &&& 31)) &&& nI 1) = nI 1 := fun y => no ((op_x C).mp y)
  exact r_X_of_0 C.X.1 C.X.2.1 S.1 S.f9 S.k6 S.f10 S.k7 S.f11 S.k8 (fun _ => H) (fun _ _ => H) (fun _ _ _ => H) (fun _ _ y => absurd y o) (fun _ _ y => absurd y o) (fun _ _ y => absurd y o) (fun _ _ y => absurd y o) (fun _ _ y => absurd y o) (fun _ _ y => absurd y o) (fun _ _ y => absurd y o) (fun _ _ y => absurd y o)
theorem x_of {i j p : Nat} (D : WD L scr h σ q cc v t) (R : PR c σ q cc v t) (hi : i < 4) (ho : bitP (σ 0 3) i) (h0 : σ 0 0 = nI p) (hp : p < 3) (hj : j < 4) (H : ∀ h', WD L scr h' σ q cc v t → frm 1 102 h h' → Q (some (.int (if j < 3 then t (3 * i + j) else nI (wyC σ c i p)))) h') :
    wpE 62 0 [some (.ref 1), some (.int (nI i)), some (.int (nI j)), none] [] h (0, 0) Q := by
  have c15 := R.c15
  obtain ⟨s, st, C⟩ := D.2.1
  refine s_X_of C R.x (by omega) (by omega) ho h0 hp hj (fun γ => ?_)
  obtain ⟨D2, f2⟩ := D.gr (γ := γ)
  have hh := H _ D2 f2
  obtain ⟨s0, r, w, _, ⟨d1, d2⟩, ⟨e1, e2⟩, ⟨f1, f2⟩, _⟩ := R.up hi ho
  have e : j = 0 ∨ j = 1 ∨ j = 2 ∨ j = 3 := by omega
  rcases e with rfl | rfl | rfl | rfl
  · rw [if_pos (by omega)] at hh
    show Q (some (.int (σ 6 i))) _
    rw [d2, ← d1]; exact hh
  · rw [if_pos (by omega)] at hh
    show Q (some (.int (σ 7 i))) _
    rw [e2, ← e1]; exact hh
  · rw [if_pos (by omega)] at hh
    show Q (some (.int (σ 8 i))) _
    rw [f2, ← f1]; exact hh
  · rw [if_neg (by omega)] at hh
    exact hh
theorem x_refusedBy {i : Nat} (D : WD L scr h σ q cc v t) (R : PR c σ q cc v t) (hi : i < 4) (ho : bitP (σ 0 3) i) (H : ∀ h', WD L scr h' σ q cc v t → frm 1 102 h h' → Q (some (.int (rfV σ c i 3 0))) h') : wpE 64 0 [some (.ref 1), some (.int (nI i)), none, none] [] h (0, 0) Q := by
  have c15 := R.c15
  obtain ⟨s, st, C⟩ := D.2.1
  obtain ⟨γ0, e⟩ := grA h C.G
  refine r_X_refusedBy_0 C.X.1 C.X.2.1 C.A.1.1 (fun y => absurd y (ar_n0 (by omega))) (fun _ y => absurd y (ar_nl (by omega) (by omega))) (fun _ _ y => absurd ((op_x C).mpr ho) y) (fun _ _ _ => ?_)
  have key : ∀ γ, Q (some (.int (rfV σ c i 3 0))) (hpg h 92 γ) := fun γ => H _ (D.gr (γ := γ)).1 (D.gr (γ := γ)).2
  have hX := C.X
  have hG := C.G
  have hA := C.A
  have l := s_X_refusedLoop (Q := Q) hX hG hA R.x (by omega) (show i < 8 by omega) 3 0 γ0 rfl key
  rw [← e] at l
  exact l
theorem x_holdsFor {i j : Nat} (D : WD L scr h σ q cc v t) (hi : i < 4) (ho : bitP (σ 0 3) i) (hj : j < 3) (H : Q (some (.int (bi (hfB σ i j)))) h) : wpE 65 0 [some (.ref 1), some (.int (nI i)), some (.int (nI j)), none] [] h (0, 0) Q := by
  obtain ⟨s, st, C⟩ := D.2.1
  exact s_X_holdsFor C hj (by omega) ho H
theorem x_holds {j : Nat} (D : WD L scr h σ q cc v t) (hj : j < 3) (H : Q (some (.int (bi (hdB σ j)))) h) : wpE 74 0 [some (.ref 1), some (.int (nI j))] [] h (0, 0) Q := by
  obtain ⟨s, st, C⟩ := D.2.1
  exact s_X_holds C hj H
theorem x_ringOf {i j : Nat} (D : WD L scr h σ q cc v t) (R : PR c σ q cc v t) (hi : i < 4) (ho : bitP (σ 0 3) i) (j1 : 1 ≤ j) (j2 : j < 2 ^ 31) (H : ∀ h', WD L scr h' σ q cc v t → frm 1 102 h h' → Q (some (.int (if j - 1 < rgQ (gRo σ c i) (c + 1) then nI (rgN (gRo σ c i) (dst (gRo σ c i) (c + 1) c c) (c + 1) (rgQ (gRo σ c i) (c + 1)) j + 1) else -(nI 20006)))) h') :
    wpE 66 0 [some (.ref 1), some (.int (nI i)), some (.int (nI j)), none] [] h (0, 0) Q := by
  have c15 := R.c15
  have m16 := R.m16
  obtain ⟨s, st, C⟩ := D.2.1
  refine s_X_ringOf C R.x (by omega) (by omega) ho j1 j2 (fun γ => ?_)
  have hh := H _ (D.gr (γ := γ)).1 (D.gr (γ := γ)).2
  unfold rcV
  rw [m16, show j - 1 + 1 = j by omega]
  have e : ∀ x, nrJ c (c + 1) (nnC c c) x = x + 1 := fun x => by
    unfold nrJ nnC
    split
    · rename_i y; rw [y]
    · omega
  rw [e]
  exact hh
theorem x_ofCommit {a j : Nat} (D : WD L scr h σ q cc v t) (R : PR c σ q cc v t) (a1 : 1 ≤ a) (a2 : a ≤ c) (hj : j < 3) (H : Q (some (.int (cc (16 * j + a)))) h) : wpE 68 0 [some (.ref 1), some (.int (nI a)), some (.int (nI j))] [] h (0, 0) Q := by
  have c15 := R.c15
  obtain ⟨s, st, C⟩ := D.2.1
  refine s_X_ofCommit C R.x (by omega) a1 a2 (by omega) hj ?_
  obtain ⟨s0, r, w, _, ⟨d1, d2⟩, ⟨e1, e2⟩, ⟨f1, f2⟩, _⟩ := R.com a1 a2
  have er : 8 + (a - 1) % 16 = 7 + a := by omega
  have e : j = 0 ∨ j = 1 ∨ j = 2 := by omega
  rcases e with rfl | rfl | rfl
  · show Q (some (.int (σ 6 (8 + (a - 1) % 16)))) _
    rw [er, d2, ← d1]
    rw [show 16 * 0 + a = a by omega] at H
    exact H
  · show Q (some (.int (σ 7 (8 + (a - 1) % 16)))) _
    rw [er, e2, ← e1]; exact H
  · show Q (some (.int (σ 8 (8 + (a - 1) % 16)))) _
    rw [er, f2, ← f1]; exact H
theorem x_ofCommitNo {x : Int32} (D : WD L scr h σ q cc v t) (R : PR c σ q cc v t) (H : Q (some (.int (-(nI 20001)))) h) : wpE 68 0 [some (.ref 1), some (.int (nI (c + 1))), some (.int x)] [] h (0, 0) Q := by
  have c15 := R.c15
  obtain ⟨s, st, C⟩ := D.2.1
  have S := C.A.1
  have g1 : hG h 2 1 = nI c := (C.g0 1).trans R.x
  have l : hG h 2 1 < nI (c + 1) := by rw [g1]; exact nI_lt (by omega) (by omega)
  exact r_X_ofCommit_0 C.X.1 C.X.2.1 S.1 S.f9 S.k6 S.f10 S.k7 S.f11 S.k8 (fun _ => H) (fun _ _ => H) (fun _ _ _ => H) (fun _ y => absurd l y) (fun _ y => absurd l y) (fun _ y => absurd l y) (fun _ y => absurd l y) (fun _ y => absurd l y) (fun _ y => absurd l y) (fun _ y => absurd l y)
theorem x_dependency {a b : Nat} (tt : Nat → Int32) (D : WD L scr h σ q cc v t) (R : PR c σ q cc v t) (a1 : 1 ≤ a) (a2 : a ≤ c) (b1 : 1 ≤ b) (b2 : b ≤ c) (ab : ¬ a = b) (H : Q (some (.int (lS (prt c cc tt) cc (spN (prt c cc tt)) a b))) h) : wpE 70 0 [some (.ref 1), some (.int (nI a)), some (.int (nI b))] [] h (0, 0) Q := by
  have c15 := R.c15
  obtain ⟨s, st, C⟩ := D.2.1
  have g1 : hG h 2 1 = nI c := (C.g0 1).trans R.x
  obtain ⟨u1, u2, u3⟩ := kp_c (c := c) (by omega) a1 a2 (by omega)
  obtain ⟨w1, w2, w3⟩ := kp_c (c := c) (by omega) b1 b2 (by omega)
  refine r_X_dependency_0 C.X.1 C.X.2.1 C.A.1.1 (fun y => absurd y u1) (fun _ y => absurd (by rw [← g1]; exact y) u2) (fun _ _ y => absurd (by rw [← g1]; exact y) u3) (fun _ _ _ y => absurd y w1) (fun _ _ _ _ y => absurd (by rw [← g1]; exact y) w2) (fun _ _ _ _ _ y => absurd (by rw [← g1]; exact y) w3) (fun _ _ _ _ _ _ _ => ?_) (fun _ _ _ _ _ _ y => absurd ((nI_eq (by omega) (by omega)).mp y) ab)
  rw [row_v a1 (by omega), row_v b1 (by omega), show 8 + (a - 1) % 16 = 7 + a by omega, show 8 + (b - 1) % 16 = 7 + b by omega]
  refine s_S_dependencySum C.A (by omega) (by omega) (r_X_dependency_60 ?_)
  rw [nd_S (R.nk tt a1 a2) (R.nk tt b1 b2) (by omega) (by omega)]
  exact H
theorem x_count {j : Nat} (D : WD L scr h σ q cc v t) (R : PR c σ q cc v t) (hj : j < 8) (H : Q (some (.int (cnV σ c j))) h) : wpE 75 0 [some (.ref 1), some (.int (nI j))] [] h (0, 0) Q := by
  have c15 := R.c15
  obtain ⟨s, st, C⟩ := D.2.1
  exact s_X_count C R.x (by omega) hj H
theorem x_inRings (D : WD L scr h σ q cc v t) (R : PR c σ q cc v t) (H : ∀ h', WD L scr h' σ q cc v t → frm 1 102 h h' → Q (some (.int (nI (rcN (gRk σ c) c)))) h') : wpE 76 0 [some (.ref 1)] [] h (0, 0) Q := by
  have c15 := R.c15
  have m16 := R.m16
  obtain ⟨s, st, C⟩ := D.2.1
  have X := C.X
  have S := C.G
  obtain ⟨γ0, e⟩ := grA h S
  refine r_X_inRings_0 X.1 X.2.2.2.2.1 X.2.1 S.1 ?_
  rw [e]
  refine s_G_load S C.A (Or.inl (by omega)) R.x (by omega) (fun γ1 G1 => ?_)
  refine r_X_inRings_11 X.1 X.2.2.2.2.1 S.1 ?_
  refine s_G_countNodesInRings (R := gRk σ c) S (by omega) G1.1 (fun x j hx hj => ((G1.2 x hx).2.2.1 j hj).trans gR_iff.symm) (fun γ2 f => r_X_inRings_18 ?_)
  rw [m16]
  exact H _ (D.gr (γ := γ2)).1 (D.gr (γ := γ2)).2
theorem x_skews (D : WD L scr h σ q cc v t) (R : PR c σ q cc v t) (H : ∀ h', WD L scr h' σ q cc v t → frm 1 102 h h' → Q (some (.int (nI (smN (skN (gOk σ c) c) c 0)))) h') : wpE 78 0 [some (.ref 1)] [] h (0, 0) Q := by
  have c15 := R.c15
  have m16 := R.m16
  obtain ⟨s, st, C⟩ := D.2.1
  have X := C.X
  have S := C.G
  obtain ⟨γ0, e⟩ := grA h S
  refine r_X_skews_0 X.1 X.2.2.2.2.1 X.2.1 S.1 ?_
  rw [e]
  refine s_G_load S C.A (Or.inl (by omega)) R.x (by omega) (fun γ1 G1 => ?_)
  refine r_X_skews_11 X.1 X.2.2.2.2.1 S.1 ?_
  refine s_G_countSkewPairs (O := gOk σ c) S (by omega) G1.1 (fun x j hx hj => ((G1.2 x hx).2.2.2.1 j hj).trans gO_iff.symm) (r_X_skews_18 ?_)
  rw [m16]
  exact H _ (D.gr (γ := γ1)).1 (D.gr (γ := γ1)).2
theorem x_orderAt {i : Nat} (D : WD L scr h σ q cc v t) (R : PR c σ q cc v t) (hi : i < 2 ^ 31) (H : ∀ h' u, WD L scr h' σ q cc v t → frm 1 102 h h' → ((u = c ∧ ∀ t, t < c → odN (gRk σ c) c t < c) ∨ (u = 0 ∧ ∃ t, t < c ∧ (∀ u, u < t → odN (gRk σ c) c u < c) ∧ odN (gRk σ c) c t = c)) → Q (some (.int (if i < u then nI (odN (gRk σ c) c i + 1) else -(nI 20006)))) h') :
    wpE 71 0 [some (.ref 1), some (.int (nI i))] [] h (0, 0) Q := by
  have c15 := R.c15
  have m16 := R.m16
  obtain ⟨s, st, C⟩ := D.2.1
  have X := C.X
  have S := C.G
  obtain ⟨γ0, e⟩ := grA h S
  refine r_X_orderAt_0 X.1 X.2.2.2.2.1 X.2.1 S.1 (fun _ => ?_) (fun y => absurd (nI_pos' hi) y)
  rw [e]
  refine s_G_load S C.A (Or.inl (by omega)) R.x (by omega) (fun γ1 G1 => ?_)
  refine r_X_orderAt_19 X.1 X.2.2.2.2.1 S.1 ?_
  refine s_G_findOrder (R := gRk σ c) (nn := nnC c (min 16 c)) S (by omega) G1.1 (fun x j hx hj => ((G1.2 x hx).2.2.1 j hj).trans gR_iff.symm) (fun j hj => (G1.2 j hj).2.1) (fun γ2 u f1 f2 f3 f4 => ?_)
  rw [m16] at f3 f4
  have u16 : u ≤ c := by rcases f3 with z | z <;> omega
  have e9 : hG (hpg h 92 γ2) 92 9 = nI u := by rw [hpg_get0]; exact f2
  have fin := H _ u (D.gr (γ := γ2)).1 (D.gr (γ := γ2)).2 f3
  refine r_X_orderAt_26 X.1 X.2.2.2.2.1 S.1 S.f8.1 S.f8.2 (fun z => absurd z (ar_n0 hi)) (fun _ z => ?_) (fun _ z => ?_) (fun _ z => ?_)
  · rw [e9, nI_leI (by omega) hi] at z
    rw [if_neg (by omega)] at fin
    exact fin
  · rw [e9, nI_leI (by omega) hi] at z
    exact inb (by omega)
  · rw [e9, nI_leI (by omega) hi] at z
    rw [if_pos (by omega)] at fin
    rw [cl hi, hpg_get (by decide), f4 i (by omega)]
    have en : nnC c c (odN (gRk σ c) c i) = odN (gRk σ c) c i + 1 := by unfold nnC; omega
    rw [en]
    exact fin
theorem x_setPolicy {p : Nat} (D : WD L scr h σ q cc v t) (hp : p < 3) (H : ∀ h', WD L scr h' (up σ 0 0 (nI p)) q cc v t → Q (some (.int (σ 0 0))) h') : wpE 5 0 [some (.ref 1), some (.int (nI p)), none] [] h (0, 0) Q := by
  obtain ⟨s, st, C⟩ := D.2.1
  have X := C.X
  refine r_X_setPolicy_0 X.1 X.2.2.2.1 X.2.1 C.kH (fun y => absurd y (ar_n0 (by omega))) (fun _ _ => ?_) (fun _ y => absurd (nI_le (by omega) (by omega)) y)
  refine C.push (fun h1 f1 C1 => ?_)
  refine r_X_setPolicy_24 C1.X.1 C1.X.2.1 C1.A.1.1 ?_
  have e1 : setG h1 2 0 (nI p) = hput h1 2 (up σ 0 0 (nI p)) := by
    have : setG h1 2 0 (nI p) = setG (hput h1 2 σ) 2 0 (nI p) := by rw [← C1.A.put]
    rw [this, hput_set0]
  rw [C1.g0 0, e1]
  have Z1 : StZ (up σ 0 0 (nI p)) := C.Z.upz (by decide)
  obtain ⟨C2, f2⟩ := C1.put Z1
  exact H _ (D.x (f1.tr f2) ⟨_, _, C2⟩)
theorem x_setConstraint {j m : Nat} {y : Int32} (D : WD L scr h σ q cc v t) (hj : j < 3) (hm : m < 16) (y1 : ¬ y < -(nI 9999)) (y2 : y ≤ nI 9999) (H : ∀ h', WD L scr h' (up (up σ 2 j (nI m)) 3 j y) q cc v t → Q (some (.int (σ 3 j))) h') : wpE 8 0 [some (.ref 1), some (.int (nI j)), some (.int (nI m)), some (.int y), none] [] h (0, 0) Q := by
  obtain ⟨s, st, C⟩ := D.2.1
  have X := C.X
  refine r_X_setConstraint_0 X.1 X.2.2.2.1 X.2.1 C.kH (fun q => absurd q (ar_n0 (by omega))) (fun _ q => absurd q (ar_nl (by omega) (by omega))) (fun _ _ q => absurd q (ar_n0 (by omega))) (fun _ _ _ q => absurd q (nI_nlt (by omega) (by omega))) (fun _ _ _ _ q => absurd q y1) (fun _ _ _ _ _ _ => ?_) (fun _ _ _ _ _ q => absurd y2 q)
  refine C.push (fun h1 f1 C1 => ?_)
  have A1 := C1.A
  refine r_X_setConstraint_51 C1.X.1 C1.X.2.1 A1.1.1 A1.1.f6 A1.1.k3 A1.1.f5 A1.1.k2 (inb (by omega)) (inb (by omega)) ?_
  have e0 : hG h1 (2 + 3) (nI j).toNatClampNeg = σ 3 j := by rw [cl (by omega)]; exact A1.2 3 (by decide) j
  have e1 : setG (setG h1 (2 + 2) (nI j).toNatClampNeg (nI m)) (2 + 3) (nI j).toNatClampNeg y = hput h1 2 (up (up σ 2 j (nI m)) 3 j y) := by
    have : setG (setG h1 (2 + 2) (nI j).toNatClampNeg (nI m)) (2 + 3) (nI j).toNatClampNeg y = setG (setG (hput h1 2 σ) (2 + 2) (nI j).toNatClampNeg (nI m)) (2 + 3) (nI j).toNatClampNeg y := by rw [← A1.put]
    rw [this, cl (by omega), hput_set (by decide), hput_set (by decide)]
  rw [e0, e1]
  have Z1 : StZ (up (up σ 2 j (nI m)) 3 j y) := (C.Z.upz (show j < 3 from hj)).upz (show j < 3 from hj)
  obtain ⟨C2, f2⟩ := C1.put Z1
  exact H _ (D.x (f1.tr f2) ⟨_, _, C2⟩)
theorem x_beginNo {i : Nat} (D : WD L scr h σ q cc v t) (hi : i < 4) (ho : bitP (σ 0 3) i) (H : Q (some (.int (-(nI 20003)))) h) : wpE 10 0 [some (.ref 1), some (.int (nI i)), none] [] h (0, 0) Q := by
  obtain ⟨s, st, C⟩ := D.2.1
  have X := C.X
  refine r_X_begin_0 X.1 (s_X_errorOfBegin C (by omega) (fun q => absurd ho q) (fun _ => ?_))
  exact r_X_begin_5 X.1 X.2.2.2.1 X.2.1 C.kH (fun q => absurd q (m1_n0 _ (by omega) (by omega))) (fun _ => H)
theorem x_begin {i : Nat} (D : WD L scr h σ q cc v t) (R : PR c σ q cc v t) (hi : i < 4) (no : ¬ bitP (σ 0 3) i) (H : ∀ h', WD L scr h' (fStart σ i) q cc v t → Q (some (.int (nI c))) h') : wpE 10 0 [some (.ref 1), some (.int (nI i)), none] [] h (0, 0) Q := by
  obtain ⟨s, st, C⟩ := D.2.1
  have X := C.X
  refine r_X_begin_0 X.1 (s_X_errorOfBegin C (by omega) (fun _ => ?_) (fun q => absurd q no))
  refine r_X_begin_5 X.1 X.2.2.2.1 X.2.1 C.kH (fun _ => ?_) (fun q => absurd nI_0 q)
  refine C.push (fun h1 f1 C1 => ?_)
  refine r_X_begin_23 C1.X.1 C1.X.2.1 C1.A.1.1 (s_S_start C1.A (by omega) (r_X_begin_31 ?_))
  obtain ⟨C2, f2⟩ := C1.put (Z_start C.Z (show i < 8 by omega))
  rw [R.x]
  exact H _ (D.x (f1.tr f2) ⟨_, _, C2⟩)
theorem x_readNo {i k : Nat} (D : WD L scr h σ q cc v t) (hi : i < 4) (no : ¬ bitP (σ 0 3) i) (H : Q (some (.int (-(nI 20001)))) h) : wpE 16 0 [some (.ref 1), some (.int (nI i)), some (.int (nI k)), none] [] h (0, 0) Q := by
  obtain ⟨s, st, C⟩ := D.2.1
  have X := C.X
  refine r_X_read_0 X.1 (s_X_errorOfRead C (fun w k a b d e f => ?_) (fun _ => ?_))
  · have : i = w := (nI_eq (by omega) (by omega)).mp d
    rw [← this] at f
    exact absurd f no
  · exact r_X_read_6 X.1 X.2.2.2.1 X.2.1 C.kH (fun q => absurd q (m1_n0 _ (by omega) (by omega))) (fun _ => H)
theorem x_read {i k : Nat} (D : WD L scr h σ q cc v t) (hi : i < 4) (hk : k < 4) (ho : bitP (σ 0 3) i) (H1 : ¬ bitP (σ 8 i) k → ∀ h', WD L scr h' (fRead σ i k) q cc v t → Q (some (.int (σ 10 (i * 12 + k)))) h') (H2 : bitP (σ 8 i) k → ∀ h', WD L scr h' σ q cc v t → Q (some (.int (σ 10 (i * 12 + k)))) h') : wpE 16 0 [some (.ref 1), some (.int (nI i)), some (.int (nI k)), none] [] h (0, 0) Q := by
  obtain ⟨s, st, C⟩ := D.2.1
  have X := C.X
  refine r_X_read_0 X.1 (s_X_errorOfRead C (fun _ _ _ _ _ _ _ => ?_) (fun q => absurd ⟨i, k, by omega, by omega, rfl, rfl, ho⟩ q))
  refine r_X_read_6 X.1 X.2.2.2.1 X.2.1 C.kH (fun _ => ?_) (fun q => absurd nI_0 q)
  refine C.push (fun h1 f1 C1 => ?_)
  refine r_X_read_24 C1.X.1 C1.X.2.1 C1.A.1.1 (s_S_readKey C1.A (by omega) (by omega) (fun q => r_X_read_33 ?_) (fun q => r_X_read_33 ?_))
  · obtain ⟨C2, f2⟩ := C1.put (Z_read (i := i) (k := k) C.Z (by omega))
    exact H1 q _ (D.x (f1.tr f2) ⟨_, _, C2⟩)
  · exact H2 q _ (D.x f1 ⟨_, _, C1⟩)
theorem x_writeNo {i k : Nat} {y : Int32} (D : WD L scr h σ q cc v t) (hi : i < 4) (no : ¬ bitP (σ 0 3) i) (H : Q (some (.int (-(nI 20001)))) h) : wpE 21 0 [some (.ref 1), some (.int (nI i)), some (.int (nI k)), some (.int y), none] [] h (0, 0) Q := by
  obtain ⟨s, st, C⟩ := D.2.1
  have X := C.X
  refine r_X_write_0 X.1 (s_X_errorOfWrite C (fun w k a b d e f _ _ => ?_) (fun _ => ?_) (fun ⟨w, k, a, b, d, e, f⟩ _ => ?_))
  · have : i = w := (nI_eq (by omega) (by omega)).mp d
    rw [← this] at f
    exact absurd f no
  · exact r_X_write_7 X.1 X.2.2.2.1 X.2.1 C.kH (fun q => absurd q (m1_n0 _ (by omega) (by omega))) (fun _ => H)
  · have : i = w := (nI_eq (by omega) (by omega)).mp d
    rw [← this] at f
    exact absurd f no
theorem x_write {i k : Nat} {y : Int32} (D : WD L scr h σ q cc v t) (hi : i < 4) (hk : k < 4) (ho : bitP (σ 0 3) i) (y1 : ¬ y < -(nI 999)) (y2 : ¬ nI 999 < y) (H : ∀ h', WD L scr h' (fWrite σ i k y) q cc v t → Q (some (.int (bcI (fWrite σ i k y 8 i)))) h') : wpE 21 0 [some (.ref 1), some (.int (nI i)), some (.int (nI k)), some (.int y), none] [] h (0, 0) Q := by
  obtain ⟨s, st, C⟩ := D.2.1
  have X := C.X
  refine r_X_write_0 X.1 (s_X_errorOfWrite C (fun _ _ _ _ _ _ _ _ _ => ?_) (fun q => absurd ⟨i, k, by omega, by omega, rfl, rfl, ho⟩ q) (fun _ q => absurd ⟨y1, y2⟩ q))
  refine r_X_write_7 X.1 X.2.2.2.1 X.2.1 C.kH (fun _ => ?_) (fun q => absurd nI_0 q)
  refine C.push (fun h1 f1 C1 => ?_)
  refine r_X_write_28 C1.X.1 C1.X.2.1 C1.A.1.1 (s_S_writeKey C1.A (by omega) (by omega) (r_X_write_38 ?_))
  obtain ⟨C2, f2⟩ := C1.put (Z_write (v := y) C.Z (show i < 8 by omega) (show k < 12 by omega))
  exact H _ (D.x (f1.tr f2) ⟨_, _, C2⟩)
theorem x_commitNo {i : Nat} (D : WD L scr h σ q cc v t) (hi : i < 4) (no : ¬ bitP (σ 0 3) i) (H : Q (some (.int (-(nI 20001)))) h) : wpE 25 0 [some (.ref 1), some (.int (nI i)), none] [] h (0, 0) Q := by
  obtain ⟨s, st, C⟩ := D.2.1
  have X := C.X
  exact r_X_commit_0 X.1 X.2.1 C.A.1.1 X.2.2.2.1 C.kH (fun _ => H) (fun _ _ => H) (fun _ _ _ => H) (fun _ _ y => absurd ((op_x C).mp y) no)
theorem x_commit {i p : Nat} (D : WD L scr h σ q cc v t) (R : c < 2 ^ 30 ∧ σ 0 1 = nI c) (hi : i < 4) (ho : bitP (σ 0 3) i) (h0 : σ 0 0 = nI p) (hp : p < 3) (H : ∀ h', WD L scr h' (cmS σ c i p) q cc v t → Q (some (.int (cmV σ c i p))) h') : wpE 25 0 [some (.ref 1), some (.int (nI i)), none] [] h (0, 0) Q := by
  obtain ⟨s, st, C⟩ := D.2.1
  have X := C.X
  refine r_X_commit_0 X.1 X.2.1 C.A.1.1 X.2.2.2.1 C.kH (fun y => absurd y (ar_n0 (by omega))) (fun _ y => absurd y (ar_nl (by omega) (by omega))) (fun _ _ y => absurd ((op_x C).mpr ho) y) (fun _ _ _ => ?_)
  refine C.push (fun h1 f1 C1 => ?_)
  refine r_X_commit_23 C1.X.1 C1.X.2.1 (s_X_finish C1.X C1.G C1.A (by omega) R.2 R.1 (by omega) hp h0 (fun γ => r_X_commit_32 ?_))
  obtain ⟨C1', f1'⟩ := C1.gr (γ := γ)
  obtain ⟨C2, f2⟩ := C1'.put (Z_cm (c := c) (i := i) (p := p) C.Z)
  exact H _ (D.x ((f1.tr f1').tr f2) ⟨_, _, C2⟩)
theorem x_abortNo {i : Nat} (D : WD L scr h σ q cc v t) (hi : i < 4) (no : ¬ bitP (σ 0 3) i) (H : Q (some (.int (-(nI 20001)))) h) : wpE 44 0 [some (.ref 1), some (.int (nI i)), none] [] h (0, 0) Q := by
  obtain ⟨s, st, C⟩ := D.2.1
  have X := C.X
  exact r_X_abort_0 X.1 X.2.1 C.A.1.1 X.2.2.2.1 C.kH (fun _ => H) (fun _ _ => H) (fun _ _ _ => H) (fun _ _ y => absurd ((op_x C).mp y) no)
theorem x_abort {i : Nat} (D : WD L scr h σ q cc v t) (hi : i < 4) (ho : bitP (σ 0 3) i) (H : ∀ h', WD L scr h' (fGive σ i) q cc v t → Q (some (.int (bcI (σ 8 i)))) h') : wpE 44 0 [some (.ref 1), some (.int (nI i)), none] [] h (0, 0) Q := by
  obtain ⟨s, st, C⟩ := D.2.1
  have X := C.X
  refine r_X_abort_0 X.1 X.2.1 C.A.1.1 X.2.2.2.1 C.kH (fun y => absurd y (ar_n0 (by omega))) (fun _ y => absurd y (ar_nl (by omega) (by omega))) (fun _ _ y => absurd ((op_x C).mpr ho) y) (fun _ _ _ => ?_)
  refine C.push (fun h1 f1 C1 => ?_)
  refine r_X_abort_23 C1.X.1 C1.X.2.1 C1.A.1.1 (s_S_giveUp C1.A (by omega) (r_X_abort_31 ?_))
  obtain ⟨C2, f2⟩ := C1.put (Z_give (i := i) C.Z)
  exact H _ (D.x (f1.tr f2) ⟨_, _, C2⟩)
theorem x_ifAll {p : Nat} (D : WD L scr h σ q cc v t) (R : c < 2 ^ 20 ∧ σ 0 1 = nI c) (h0 : σ 0 0 = nI p) (hp : p < 3) (H : ∀ h', WD L scr h' σ q cc v t → frm 1 102 h h' → Q (some (.int (nI (smN (fun q => b01 (hdB (faS σ c p 8).2 q)) 3 0)))) h') : wpE 46 0 [some (.ref 1), none, none] [] h (0, 0) Q := by
  obtain ⟨s, st, C⟩ := D.2.1
  exact s_X_ifAll C R.2 (by omega) h0 hp (fun h' f C' => H h' (D.x f ⟨_, _, C'⟩) f)
end
