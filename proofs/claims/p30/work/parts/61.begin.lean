/-! ===== the law's entry ===== -/
theorem PR_z {t : Nat → Int32} (h : ∀ i, i < 4 → t (3 * i) = -(nI 1)) : PR 0 zV (fun _ => 0) (fun _ => 0) (fun _ => 0) t := by
  have nb : ∀ i, i < 8 → ¬ bitP (0 : Int32) i := by decide
  exact ⟨by omega, ⟨rfl, rfl⟩, ⟨0, by omega, rfl, rfl⟩, ⟨fun _ _ => rfl, rfl⟩, fun _ _ => ⟨⟨0, by omega, rfl, rfl⟩, rfl⟩, fun _ _ => ⟨rfl, rfl⟩, ⟨0, by omega, rfl⟩, fun i hi => Or.inl ⟨nb i (by omega), h i hi⟩, fun n a b => by omega⟩
theorem lw_start {L : Nat} {scr : Nat → Int32} (hL : L ≤ 260) {h : sn_H} (hn : hN h = 1) (La : LaS h L scr) {Q : Option Value → sn_H → Prop} (HQ : ∀ h, Q (some (.int (nI 1))) h) : wpE 80 0 [some (.ref 0), none, none, none, none, none, none, none, none, none, none, none, none, none, none, none, none, none] [] h (0, 0) Q := by
  refine r_L_law_0 ?_
  rw [hn]
  refine r_L_law_3 (by omega) (by omega) ?_
  have k1 : hK (allocH h (0, 0, 5)) 1 = (0, 0, 5) := by
    have := al_K h (0, 0, 5)
    rwa [hn] at this
  refine s_X_init (by rw [al_N, hn]) k1 (fun h1 O X N F => ?_)
  have G0 : Fx 1 1 h h1 := (Fx.al (by omega) : Fx 1 1 h (allocH h (0, 0, 5))).tr F
  have La1 : LaS h1 L scr := ⟨(G0 0 (by omega)).1.trans La.1, fun k => ((G0 0 (by omega)).2.1 k).trans (La.2 k)⟩
  have S6 : ∀ i, i < 6 → StA h1 (hiP 24 i) zV := fun i hi => ((O.2.2.1 (by omega)).2.2.2.2 i hi).2
  have Hx := O.2.2.1 (by omega)
  have Sc := O.2.2.2.2 (by omega)
  have C1 : CI h1 zV 0 (fun _ => zV) 0 (fun _ => 0) := ⟨⟨X.1, X.2 0 (by omega), X.2 1 (by omega), X.2 2 (by omega), X.2 3 (by omega), X.2 4 (by omega)⟩, ⟨O.1 (by omega), zV_Z⟩, ⟨zV, O.2.1 (by omega), zV_Z⟩, ⟨0, ⟨Hx.1, Hx.2.1, Hx.2.2.1, fun i hi => ⟨(Hx.2.2.2.2 i hi).1, (S6 i hi).1⟩⟩, ⟨Hx.2.2.2.1 1, Hx.2.2.2.1 2, by omega, by omega⟩, fun k hk => absurd hk (by omega), fun i hi => ⟨zV, S6 i hi, zV_Z⟩⟩, O.2.2.2.1 (by omega), ⟨Sc.1, Sc.2.1, Sc.2.2.1, Sc.2.2.2, fun i hi => absurd hi (by omega)⟩⟩
  have n1 : Nw h1 (allocH h1 (1, 0, 12)) := Nw.al h1 _
  have n2 := Nw.al (allocH h1 (1, 0, 12)) (1, 0, 48)
  have n3 := Nw.al (allocH (allocH h1 (1, 0, 12)) (1, 0, 48)) (1, 0, 64)
  have n4 := Nw.al (allocH (allocH (allocH h1 (1, 0, 12)) (1, 0, 48)) (1, 0, 64)) (1, 0, 28)
  have N1 : hN (allocH h1 (1, 0, 12)) = hN h1 + 1 := rfl
  have N2 : hN (allocH (allocH h1 (1, 0, 12)) (1, 0, 48)) = hN h1 + 2 := rfl
  have N3 : hN (allocH (allocH (allocH h1 (1, 0, 12)) (1, 0, 48)) (1, 0, 64)) = hN h1 + 3 := rfl
  have N4 : hN (allocH (allocH (allocH (allocH h1 (1, 0, 12)) (1, 0, 48)) (1, 0, 64)) (1, 0, 28)) = hN h1 + 4 := rfl
  have A1 : Ar1 (allocH h1 (1, 0, 12)) (hN h1) 12 (fun _ => 0) := Ar1.al
  have A2 : Ar1 (allocH (allocH h1 (1, 0, 12)) (1, 0, 48)) (hN h1 + 1) 48 (fun _ => 0) := Ar1.al
  have A3 : Ar1 (allocH (allocH (allocH h1 (1, 0, 12)) (1, 0, 48)) (1, 0, 64)) (hN h1 + 2) 64 (fun _ => 0) := Ar1.al
  have A4 : Ar1 (allocH (allocH (allocH (allocH h1 (1, 0, 12)) (1, 0, 48)) (1, 0, 64)) (1, 0, 28)) (hN h1 + 3) 28 (fun _ => 0) := Ar1.al
  refine r_L_law_7 (by omega) (by omega) (r_L_law_12 (by omega) (by omega) (r_L_law_17 (by omega) (by omega) (r_L_law_22 (by omega) (by omega) (r_L_law_28 ?_))))
  rw [N1, N2, N3, N]
  have W0 : W4 (allocH (allocH (allocH (allocH h1 (1, 0, 12)) (1, 0, 48)) (1, 0, 64)) (1, 0, 28)) 103 (fun _ => 0) (fun _ => 0) (fun _ => 0) (fun _ => 0) := by
    have W : W4 (allocH (allocH (allocH (allocH h1 (1, 0, 12)) (1, 0, 48)) (1, 0, 64)) (1, 0, 28)) (hN h1) (fun _ => 0) (fun _ => 0) (fun _ => 0) (fun _ => 0) := ⟨by rw [N4]; omega, ((n2.tr n3).tr n4).A A1 (by rw [N1]; omega), (n3.tr n4).A A2 (by rw [N2]; omega), n4.A A3 (by rw [N3]; omega), A4⟩
    rw [N] at W
    exact W
  have w4 := ((n1.tr n2).tr n3).tr n4
  have La4 := w4.La La1 (by omega)
  have C4 := C1.fx ((w4.ch 103).fx (Nat.le_refl _) (by omega)) (Nat.le_refl _)
  have D4 : WD L scr (allocH (allocH (allocH (allocH h1 (1, 0, 12)) (1, 0, 48)) (1, 0, 64)) (1, 0, 28)) zV (fun _ => 0) (fun _ => 0) (fun _ => 0) (fun _ => 0) := ⟨La4, ⟨_, _, C4⟩, W0⟩
  generalize allocH (allocH (allocH (allocH h1 (1, 0, 12)) (1, 0, 48)) (1, 0, 64)) (1, 0, 28) = h4 at D4 ⊢
  suffices ∀ m i h' t, i + m = 4 → WD L scr h' zV (fun _ => 0) (fun _ => 0) (fun _ => 0) t → (∀ j, j < i → t (3 * j) = -(nI 1)) → wpE 80 33 [some (.ref 0), some (.ref 1), some (.ref 103), some (.ref 104), some (.ref 105), some (.ref 106), some (.int (nI i)), none, none, none, none, none, none, none, none, none, none, none] [] h' (1 + 101 + 1 + 1 + 1 + 1, 5 + 4541 + 12 + 48 + 64 + 28) Q from this 4 0 h4 _ rfl D4 (fun j hj => absurd hj (Nat.not_lt_zero j))
  intro m
  induction m with
  | zero =>
    intro i h' t hi D T
    have e : i = 4 := hi
    subst e
    refine r_L_law_33 D.kt (fun _ => ?_) (fun y => absurd (Int32.le_refl _) y) (fun y => absurd (Int32.le_refl _) y)
    exact a_loop hL HQ 44 0 h' _ _ rfl ⟨0, zV, _, _, _, t, PR_z T, D⟩ (by omega) (by omega)
  | succ m ih =>
    intro i h' t hi D T
    have nl : ¬ nI 4 ≤ nI i := nI_ge (by omega) (by omega)
    refine r_L_law_33 D.kt (fun y => absurd y nl) (fun _ => by rw [pk_mul]; exact inb (by omega)) (fun _ => ?_)
    rw [pk_mul, cl (by omega), nI_s]
    refine ih (i + 1) _ (ua t (3 * i) (-(nI 1))) (by omega) (D.ch4 (((Nw.rf h').ch 103).sG (p := 106) (by omega)) D.2.2.st) (fun j hj => ?_)
    by_cases e : j = i
    · rw [e, ua_s]
    · rw [ua_n (by omega)]; exact T j (by omega)
