/-! ===== from the empty heap to the first call ===== -/
theorem st_nth : ∀ j, j < 10 → sn_nth [(4, 1, 0, 4), (5, 1, 0, 3), (6, 1, 0, 3), (7, 1, 0, 12), (8, 1, 0, 12), (9, 1, 0, 24), (10, 1, 0, 24), (11, 1, 0, 24), (12, 1, 0, 288), (13, 1, 0, 96)] j = some (4 + j, 1, 0, stLen j) := by decide
theorem Ar.S {h h' : sn_H} {b : Nat} (A : Ar h h' b [(4, 1, 0, 4), (5, 1, 0, 3), (6, 1, 0, 3), (7, 1, 0, 12), (8, 1, 0, 12), (9, 1, 0, 24), (10, 1, 0, 24), (11, 1, 0, 24), (12, 1, 0, 288), (13, 1, 0, 96)]) (hk : hK h b = (0, 1, 14)) (hz : ∀ k, hG h b k = 0) : StA h' b zV := by
  have a2 := A.2.1 b (by omega)
  refine ⟨⟨a2.1.trans hk, fun j hj => ?_⟩, fun j hj k => ?_⟩
  · obtain ⟨x1, x2, _⟩ := A.2.2 j _ _ (st_nth j hj)
    exact ⟨x1, x2⟩
  · cases j with
    | zero => exact (a2.2.1 k).trans (hz k)
    | succ j =>
      obtain ⟨_, _, x3⟩ := A.2.2 j _ _ (st_nth j (by omega))
      rw [show b + (j + 1) = b + (1 + j) by omega]
      exact x3 k
theorem gr_nth : ∀ j, j < 8 → sn_nth [(1, 1, 0, 17), (2, 1, 0, 17), (3, 1, 0, 289), (4, 1, 0, 17), (5, 1, 0, 17), (6, 1, 0, 17), (7, 1, 0, 17), (8, 1, 0, 17)] j = some (1 + j, 1, 0, grLen j) := by decide
theorem Ar.G {h h' : sn_H} {b : Nat} (A : Ar h h' b [(1, 1, 0, 17), (2, 1, 0, 17), (3, 1, 0, 289), (4, 1, 0, 17), (5, 1, 0, 17), (6, 1, 0, 17), (7, 1, 0, 17), (8, 1, 0, 17)]) (hk : hK h b = (0, 3, 10)) : GrS h' b := by
  refine ⟨(A.2.1 b (by omega)).1.trans hk, fun j hj => ?_⟩
  obtain ⟨x1, x2, _⟩ := A.2.2 j _ _ (gr_nth j hj)
  exact ⟨x1, x2⟩
theorem mo_nth : ∀ j, j < 7 → sn_nth [(0, 1, 0, 596), (1, 1, 0, 596), (2, 1, 0, 3576), (4, 1, 0, 80), (7, 1, 0, 17), (8, 1, 0, 17), (9, 1, 0, 16)] j = some (moFld j, 1, 0, moLen j) := by decide
theorem Ar.M {h h' : sn_H} {b : Nat} (A : Ar h h' b [(0, 1, 0, 596), (1, 1, 0, 596), (2, 1, 0, 3576), (4, 1, 0, 80), (7, 1, 0, 17), (8, 1, 0, 17), (9, 1, 0, 16)]) (hk : hK h b = (0, 5, 16)) (hz : ∀ k, hG h b k = 0) : MoA h' b zV := by
  have a2 := A.2.1 b (by omega)
  refine ⟨⟨a2.1.trans hk, fun j hj => ?_⟩, fun j hj k => ?_⟩
  · obtain ⟨x1, x2, _⟩ := A.2.2 j _ _ (mo_nth j hj)
    exact ⟨x1, x2⟩
  · cases j with
    | zero => exact (a2.2.1 k).trans (hz k)
    | succ j =>
      obtain ⟨_, _, x3⟩ := A.2.2 j _ _ (mo_nth j (by omega))
      rw [show b + (j + 1) = b + (1 + j) by omega]
      exact x3 k
theorem Ar.fx {h0 h : sn_H} {b e : Nat} {l : List (Nat × Nat × Nat × Nat)} {kd : Nat × Nat × Nat} (A : Ar (allocH h0 kd) h b l) (hb : b = hN h0) (he : b ≤ e) : Fx e b h0 h := by
  have f1 : Fx e b h0 (allocH h0 kd) := Fx.al (by omega)
  exact f1.tr ((A.2.1.le (Nat.le_succ b)).ch (Nat.le_refl b))
/-- the History with i of its States made -/
def HiX (h : sn_H) (p i : Nat) : Prop := hK h p = (0, 2, 3) ∧ hR h p 0 = some (p + 1) ∧ hK h (p + 1) = (4, 1, 6) ∧ (∀ k, hG h p k = 0) ∧ ∀ j, j < i → hR h (p + 1) j = some (hiP p j) ∧ StA h (hiP p j) zV
theorem s_H_init {h : sn_H} {p : Nat} (hn : hN h = p + 1) (hk : hK h p = (0, 2, 3)) (hz : ∀ k, hG h p k = 0) {Q : Option Value → sn_H → Prop} (K : ∀ h', HiX h' p 6 → hN h' = p + 68 → Fx p p h h' → Q none h') : wpE 2 0 [some (.ref p), none] [] h (0, 0) Q := by
  refine r_H_init_0 ?_
  have hn' : h.1 = p + 1 := hn
  have ne : p ≠ h.1 := by omega
  refine r_H_init_10 ((if_neg ne).trans hk) ?_
  have key : ∀ r i h', i + r = 6 → HiX h' p i → hN h' = p + 2 + 11 * i → Fx p p h h' → wpE 2 15 [some (.ref p), some (.int (nI i))] [] h' (1 + 11 * i, 6 + 504 * i) Q := by
    intro r
    induction r with
    | zero =>
      intro i h' e X n F
      have ei : i = 6 := e
      subst ei
      exact r_H_init_15 X.1 X.2.1 (fun _ => K h' X (by omega) F) (fun q => absurd (Int32.le_refl _) q) (fun q => absurd (Int32.le_refl _) q) (fun q => absurd (Int32.le_refl _) q)
    | succ r ih =>
      intro i h' e X n F
      refine r_H_init_15 X.1 X.2.1 (fun q => absurd q (nI_ge (by omega) (by omega))) (fun _ => by omega) (fun _ => by omega) (fun _ => ?_)
      refine r_H_init_29 (by omega) (by omega) ?_
      rw [n]
      refine s_S_init (b := p + 2 + 11 * i) (by rw [al_N, n]) (by rw [← n]; exact al_K _ _) (fun h2 A2 => ?_)
      have S2 := A2.S (by rw [← n]; exact al_K _ _) (fun k => by rw [← n]; exact al_G _ _ k)
      have F2 : Fx (p + 2 + 11 * i) (p + 2 + 11 * i) h' h2 := A2.fx n.symm (Nat.le_refl _)
      have N2 : hN h2 = p + 2 + 11 * i + 1 + 10 := A2.1
      refine r_H_init_33 ((F2 (p + 1) (by omega)).1.trans X.2.2.1) S2.1.1 (inb (by omega)) ?_
      rw [nI_s, cl (by omega), show 1 + 11 * i + 1 + 10 = 1 + 11 * (i + 1) by omega, show 6 + 504 * i + 14 + 490 = 6 + 504 * (i + 1) by omega]
      have F3 : ∀ n, Fx (p + 1) n h2 (setR h2 (p + 1) i (p + 2 + 11 * i)) := fun n => Fx.sR
      refine ih (i + 1) _ (by omega) ⟨(F3 (p + 1) p (by omega)).1.trans ((F2 p (by omega)).1.trans X.1), ?_, ((F3 (p + 2) (p + 1) (by omega)).1.trans ((F2 (p + 1) (by omega)).1.trans X.2.2.1)), fun k => ((F3 (p + 1) p (by omega)).2.1 k).trans (((F2 p (by omega)).2.1 k).trans (X.2.2.2.1 k)), fun j hj => ?_⟩ (by rw [sR_N, N2]; omega) (F.tr ((F2.le (by omega)).ch (by omega) |>.tr (((F3 p).ch (by omega)))))
      · exact ((F3 (p + 1)).R' (by omega) (by omega) 0).trans ((F2.R' (by omega) (by omega) 0).trans X.2.1)
      · by_cases ji : j = i
        · subst ji
          refine ⟨if_pos ⟨rfl, rfl⟩, ?_⟩
          exact (F3 (p + 2 + 11 * j + 11)).St (b := hiP p j) S2 (by unfold hiP; omega) (by unfold hiP; omega)
        · obtain ⟨x1, x2⟩ := X.2.2.2.2 j (by omega)
          refine ⟨(if_neg (fun z => ji z.2)).trans ((F2.R' (by omega) (by omega) j).trans x1), ?_⟩
          exact (F3 (p + 2 + 11 * i)).St (F2.St x2 (by unfold hiP; omega) (by unfold hiP; omega)) (by unfold hiP; omega) (by unfold hiP; omega)
  refine key 6 0 _ rfl ⟨(if_neg ne).trans hk, (if_pos ⟨rfl, rfl⟩).trans (congrArg some hn), ?_, fun k => (if_neg ne).trans (hz k), fun j hj => absurd hj (by omega)⟩ (by rw [sR_N, al_N, hn]) ?_
  · have : p + 1 = h.1 := hn'.symm
    exact if_pos this
  · have f1 : Fx p p h (allocH h (4, 1, 6)) := Fx.al (by omega)
    exact f1.tr Fx.sR
