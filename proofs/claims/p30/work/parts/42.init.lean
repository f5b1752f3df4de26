/-! ===== the constructors (rows of whole, numbers of this claim) ===== -/
/-- places below n are as they were, but the links of e -/
def Fx (e n : Nat) (h h' : sn_H) : Prop := ∀ p, p < n → hK h' p = hK h p ∧ (∀ k, hG h' p k = hG h p k) ∧ (p ≠ e → ∀ k, hR h' p k = hR h p k)
theorem Fx.rf (e n : Nat) (h : sn_H) : Fx e n h h := fun _ _ => ⟨rfl, fun _ => rfl, fun _ _ => rfl⟩
theorem Fx.tr {e n : Nat} {h h1 h2 : sn_H} (a : Fx e n h h1) (b : Fx e n h1 h2) : Fx e n h h2 := fun p hp => ⟨(b p hp).1.trans (a p hp).1, fun k => ((b p hp).2.1 k).trans ((a p hp).2.1 k), fun he k => ((b p hp).2.2 he k).trans ((a p hp).2.2 he k)⟩
theorem Fx.le {e n n' : Nat} {h h' : sn_H} (a : Fx e n h h') (hn : n' ≤ n) : Fx e n' h h' := fun p hp => a p (by omega)
theorem Fx.ch {e e' n : Nat} {h h' : sn_H} (a : Fx e n h h') (hn : n ≤ e) : Fx e' n h h' := fun p hp => ⟨(a p hp).1, (a p hp).2.1, fun _ => (a p hp).2.2 (by omega)⟩
theorem Fx.al {e n : Nat} {h : sn_H} {kd : Nat × Nat × Nat} (hn : n ≤ hN h) : Fx e n h (allocH h kd) := fun p hp => by
  have ne : p ≠ h.1 := Nat.ne_of_lt (Nat.lt_of_lt_of_le hp hn)
  exact ⟨if_neg ne, fun _ => if_neg ne, fun _ _ => if_neg ne⟩
theorem Fx.sR {e n k r : Nat} {h : sn_H} : Fx e n h (setR h e k r) := fun p _ => ⟨rfl, fun _ => rfl, fun he _ => if_neg (fun z => he z.1)⟩
theorem Fx.R' {e n : Nat} {h h' : sn_H} (a : Fx e n h h') {p : Nat} (hp : p < n) (he : p ≠ e) (k : Nat) : hR h' p k = hR h p k := (a p hp).2.2 he k
theorem Fx.St {e n : Nat} {h h' : sn_H} (f : Fx e n h h') {b : Nat} {σ : sn_V} (S : StA h b σ) (hb : b + 10 < n) (he : b ≠ e) : StA h' b σ :=
  ⟨⟨(f b (by omega)).1.trans S.1.1, fun j hj => ⟨(f.R' (by omega) he _).trans (S.1.2 j hj).1, (f _ (by omega)).1.trans (S.1.2 j hj).2⟩⟩, fun j hj k => ((f _ (by omega)).2.1 k).trans (S.2 j hj k)⟩
theorem Fx.Gr {e n : Nat} {h h' : sn_H} (f : Fx e n h h') {b : Nat} (S : GrS h b) (hb : b + 8 < n) (he : b ≠ e) : GrS h' b :=
  ⟨(f b (by omega)).1.trans S.1, fun j hj => ⟨(f.R' (by omega) he _).trans (S.2 j hj).1, (f _ (by omega)).1.trans (S.2 j hj).2⟩⟩
def zV : sn_V := fun _ _ => 0
theorem zV_Z : StZ zV := fun _ _ _ _ => rfl
theorem al_K (h : sn_H) (kd : Nat × Nat × Nat) : hK (allocH h kd) (hN h) = kd := if_pos rfl
theorem al_G (h : sn_H) (kd : Nat × Nat × Nat) (k : Nat) : hG (allocH h kd) (hN h) k = 0 := if_pos rfl
theorem al_N (h : sn_H) (kd : Nat × Nat × Nat) : hN (allocH h kd) = hN h + 1 := rfl
theorem sR_N (h : sn_H) (p k r : Nat) : hN (setR h p k r) = hN h := rfl
/-- arrays made one after another, linked from b -/
def Ar (h0 h : sn_H) (b : Nat) (l : List (Nat × Nat × Nat × Nat)) : Prop := hN h = b + 1 + l.length ∧ Fx b (b + 1) h0 h ∧ ∀ j f kd, sn_nth l j = some (f, kd) → hR h b f = some (b + (1 + j)) ∧ hK h (b + (1 + j)) = kd ∧ ∀ k, hG h (b + (1 + j)) k = 0
theorem Ar.nil {h : sn_H} {b : Nat} (hn : hN h = b + 1) : Ar h h b [] := ⟨hn, Fx.rf _ _ _, fun j f kd e => by cases e⟩
theorem nth_app {α : Type} (a : α) : ∀ (l : List α) (j : Nat) (x : α), sn_nth (l ++ [a]) j = some x → (j < l.length ∧ sn_nth l j = some x) ∨ (j = l.length ∧ x = a)
  | [], 0, x, e => Or.inr ⟨rfl, by injection e with e; exact e.symm⟩
  | [], j + 1, x, e => by cases e
  | c :: l, 0, x, e => Or.inl ⟨Nat.succ_pos _, e⟩
  | c :: l, j + 1, x, e => by
    rcases nth_app a l j x e with ⟨h1, h2⟩ | ⟨h1, h2⟩
    · exact Or.inl ⟨Nat.succ_lt_succ h1, h2⟩
    · exact Or.inr ⟨congrArg Nat.succ h1, h2⟩
theorem nth_mem {α : Type} : ∀ (l : List α) (j : Nat) (x : α), sn_nth l j = some x → x ∈ l
  | c :: l, 0, x, e => by injection e with e; rw [e]; exact List.mem_cons_self
  | c :: l, j + 1, x, e => List.mem_cons_of_mem _ (nth_mem l j x e)
theorem Ar.st {h0 h : sn_H} {b : Nat} {l : List (Nat × Nat × Nat × Nat)} (A : Ar h0 h b l) (f : Nat) (kd : Nat × Nat × Nat) (hf : ∀ g ∈ l, g.1 ≠ f) : Ar h0 (setR (allocH h kd) b f (hN h)) b (l ++ [(f, kd)]) := by
  obtain ⟨a1, a2, a3⟩ := A
  have hn : h.1 = b + 1 + l.length := a1
  refine ⟨?_, a2.tr ((Fx.al (by show _ ≤ h.1; omega)).tr Fx.sR), fun j f' kd' e => ?_⟩
  · show h.1 + 1 = b + 1 + (l ++ [(f, kd)]).length
    rw [List.length_append]
    show h.1 + 1 = b + 1 + (l.length + 1)
    omega
  · rcases nth_app _ _ _ _ e with ⟨e1, e2⟩ | ⟨e1, e2⟩
    · obtain ⟨x1, x2, x3⟩ := a3 j f' kd' e2
      have ne : b + (1 + j) ≠ h.1 := by omega
      have nb : b ≠ h.1 := by omega
      refine ⟨?_, (if_neg ne).trans x2, fun k => (if_neg ne).trans (x3 k)⟩
      have nf : f' ≠ f := hf _ (nth_mem _ _ _ e2)
      exact (if_neg (fun z => nf z.2)).trans ((if_neg nb).trans x1)
    · injection e2 with e2 e3
      subst e2 e3
      have ee : b + (1 + j) = h.1 := by omega
      refine ⟨(if_pos ⟨rfl, rfl⟩).trans (by rw [ee]; rfl), (if_pos ee), fun k => if_pos ee⟩
theorem Ar.ka {h0 h : sn_H} {b : Nat} {l : List (Nat × Nat × Nat × Nat)} (A : Ar h0 h b l) {kd kd' : Nat × Nat × Nat} (e : hK h0 b = kd') : hK (allocH h kd) b = kd' := by
  have hn : h.1 = b + 1 + l.length := A.1
  exact (if_neg (by omega : b ≠ h.1)).trans ((A.2.1 b (by omega)).1.trans e)
theorem s_S_init {h : sn_H} {b : Nat} (hn : hN h = b + 1) (hk : hK h b = (0, 1, 14)) {Q : Option Value → sn_H → Prop} (K : ∀ h', Ar h h' b [(4, 1, 0, 4), (5, 1, 0, 3), (6, 1, 0, 3), (7, 1, 0, 12), (8, 1, 0, 12), (9, 1, 0, 24), (10, 1, 0, 24), (11, 1, 0, 24), (12, 1, 0, 288), (13, 1, 0, 96)] → Q none h') : wpE 1 0 [some (.ref b)] [] h (0, 0) Q := by
  have A0 := Ar.nil hn
  refine r_S_init_0 ?_
  have A1 := A0.st 4 (1, 0, 4) (by decide)
  refine r_S_init_8 (A0.ka hk) ?_
  generalize setR (allocH h (1, 0, 4)) b 4 (hN h) = h1 at A1 ⊢
  have A2 := A1.st 5 (1, 0, 3) (by decide)
  refine r_S_init_15 (A1.ka hk) ?_
  generalize setR (allocH h1 (1, 0, 3)) b 5 (hN h1) = h2 at A2 ⊢
  have A3 := A2.st 6 (1, 0, 3) (by decide)
  refine r_S_init_22 (A2.ka hk) ?_
  generalize setR (allocH h2 (1, 0, 3)) b 6 (hN h2) = h3 at A3 ⊢
  have A4 := A3.st 7 (1, 0, 12) (by decide)
  refine r_S_init_30 (A3.ka hk) ?_
  generalize setR (allocH h3 (1, 0, 12)) b 7 (hN h3) = h4 at A4 ⊢
  have A5 := A4.st 8 (1, 0, 12) (by decide)
  refine r_S_init_38 (A4.ka hk) ?_
  generalize setR (allocH h4 (1, 0, 12)) b 8 (hN h4) = h5 at A5 ⊢
  have A6 := A5.st 9 (1, 0, 24) (by decide)
  refine r_S_init_46 (A5.ka hk) ?_
  generalize setR (allocH h5 (1, 0, 24)) b 9 (hN h5) = h6 at A6 ⊢
  have A7 := A6.st 10 (1, 0, 24) (by decide)
  refine r_S_init_54 (A6.ka hk) ?_
  generalize setR (allocH h6 (1, 0, 24)) b 10 (hN h6) = h7 at A7 ⊢
  have A8 := A7.st 11 (1, 0, 24) (by decide)
  refine r_S_init_62 (A7.ka hk) ?_
  generalize setR (allocH h7 (1, 0, 24)) b 11 (hN h7) = h8 at A8 ⊢
  have A9 := A8.st 12 (1, 0, 288) (by decide)
  refine r_S_init_71 (A8.ka hk) ?_
  generalize setR (allocH h8 (1, 0, 288)) b 12 (hN h8) = h9 at A9 ⊢
  have A10 := A9.st 13 (1, 0, 96) (by decide)
  refine r_S_init_79 (A9.ka hk) ?_
  exact K _ A10
theorem s_G_init {h : sn_H} {b : Nat} (hn : hN h = b + 1) (hk : hK h b = (0, 3, 10)) {Q : Option Value → sn_H → Prop} (K : ∀ h', Ar h h' b [(1, 1, 0, 17), (2, 1, 0, 17), (3, 1, 0, 289), (4, 1, 0, 17), (5, 1, 0, 17), (6, 1, 0, 17), (7, 1, 0, 17), (8, 1, 0, 17)] → Q none h') : wpE 3 0 [some (.ref b)] [] h (0, 0) Q := by
  have A0 := Ar.nil hn
  refine r_G_init_0 ?_
  have A1 := A0.st 1 (1, 0, 17) (by decide)
  refine r_G_init_9 (A0.ka hk) ?_
  generalize setR (allocH h (1, 0, 17)) b 1 (hN h) = h1 at A1 ⊢
  have A2 := A1.st 2 (1, 0, 17) (by decide)
  refine r_G_init_17 (A1.ka hk) ?_
  generalize setR (allocH h1 (1, 0, 17)) b 2 (hN h1) = h2 at A2 ⊢
  have A3 := A2.st 3 (1, 0, 289) (by decide)
  refine r_G_init_26 (A2.ka hk) ?_
  generalize setR (allocH h2 (1, 0, 289)) b 3 (hN h2) = h3 at A3 ⊢
  have A4 := A3.st 4 (1, 0, 17) (by decide)
  refine r_G_init_34 (A3.ka hk) ?_
  generalize setR (allocH h3 (1, 0, 17)) b 4 (hN h3) = h4 at A4 ⊢
  have A5 := A4.st 5 (1, 0, 17) (by decide)
  refine r_G_init_42 (A4.ka hk) ?_
  generalize setR (allocH h4 (1, 0, 17)) b 5 (hN h4) = h5 at A5 ⊢
  have A6 := A5.st 6 (1, 0, 17) (by decide)
  refine r_G_init_50 (A5.ka hk) ?_
  generalize setR (allocH h5 (1, 0, 17)) b 6 (hN h5) = h6 at A6 ⊢
  have A7 := A6.st 7 (1, 0, 17) (by decide)
  refine r_G_init_58 (A6.ka hk) ?_
  generalize setR (allocH h6 (1, 0, 17)) b 7 (hN h6) = h7 at A7 ⊢
  have A8 := A7.st 8 (1, 0, 17) (by decide)
  refine r_G_init_66 (A7.ka hk) ?_
  exact K _ A8
theorem s_T_init {h : sn_H} {b : Nat} (hn : hN h = b + 1) (hk : hK h b = (0, 4, 2)) {Q : Option Value → sn_H → Prop} (K : ∀ h', Ar h h' b [(0, 2, 0, 80)] → Q none h') : wpE 4 0 [some (.ref b)] [] h (0, 0) Q := by
  have A0 := Ar.nil hn
  refine r_T_init_0 ?_
  have A1 := A0.st 0 (2, 0, 80) (by decide)
  refine r_T_init_9 (A0.ka hk) ?_
  exact K _ A1
theorem st_nth : ∀ j, j < 10 → sn_nth [(4, 1, 0, 4), (5, 1, 0, 3), (6, 1, 0, 3), (7, 1, 0, 12), (8, 1, 0, 12), (9, 1, 0, 24), (10, 1, 0, 24), (11, 1, 0, 24), (12, 1, 0, 288), (13, 1, 0, 96)] j = some (4 + j, 1, 0, stLen j) := by decide
theorem Ar.S {h h' : sn_H} {b : Nat} (A : Ar h h' b [(4, 1, 0, 4), (5, 1, 0, 3), (6, 1, 0, 3), (7, 1, 0, 12), (8, 1, 0, 12), (9, 1, 0, 24), (10, 1, 0, 24), (11, 1, 0, 24), (12, 1, 0, 288), (13, 1, 0, 96)]) (hk : hK h b = (0, 1, 14)) (hz : ∀ k, hG h b k = 0) : StA h' b zV := by
  have a2 := A.2.1 b (by omega)
  refine ⟨⟨a2.1.trans hk, fun j hj => ?_⟩, fun j hj k => ?_⟩
  · obtain ⟨x1, x2, _⟩ := A.2.2 j _ _ (st_nth j hj)
    exact ⟨x1, x2⟩
  · cases j with
    | zero => exact (a2.2.1 k).trans (hz k)
    | succ j =>
      obtain ⟨_, _, x3⟩ := A.2.2 j _ _ (st_nth j (by omega))
      rw [show b + (j + 1) = b + (1 + j) by omega]
      exact x3 k
theorem gr_nth : ∀ j, j < 8 → sn_nth [(1, 1, 0, 17), (2, 1, 0, 17), (3, 1, 0, 289), (4, 1, 0, 17), (5, 1, 0, 17), (6, 1, 0, 17), (7, 1, 0, 17), (8, 1, 0, 17)] j = some (1 + j, 1, 0, grLen j) := by decide
theorem Ar.G {h h' : sn_H} {b : Nat} (A : Ar h h' b [(1, 1, 0, 17), (2, 1, 0, 17), (3, 1, 0, 289), (4, 1, 0, 17), (5, 1, 0, 17), (6, 1, 0, 17), (7, 1, 0, 17), (8, 1, 0, 17)]) (hk : hK h b = (0, 3, 10)) : GrS h' b := by
  refine ⟨(A.2.1 b (by omega)).1.trans hk, fun j hj => ?_⟩
  obtain ⟨x1, x2, _⟩ := A.2.2 j _ _ (gr_nth j hj)
  exact ⟨x1, x2⟩
theorem Ar.fx {h0 h : sn_H} {b e : Nat} {l : List (Nat × Nat × Nat × Nat)} {kd : Nat × Nat × Nat} (A : Ar (allocH h0 kd) h b l) (hb : b = hN h0) (he : b ≤ e) : Fx e b h0 h := by
  have f1 : Fx e b h0 (allocH h0 kd) := Fx.al (by omega)
  exact f1.tr ((A.2.1.le (Nat.le_succ b)).ch (Nat.le_refl b))
/-- the History with i of its States made -/
def HiX (h : sn_H) (p i : Nat) : Prop := hK h p = (0, 2, 3) ∧ hR h p 0 = some (p + 1) ∧ hK h (p + 1) = (4, 1, 6) ∧ (∀ k, hG h p k = 0) ∧ ∀ j, j < i → hR h (p + 1) j = some (hiP p j) ∧ StA h (hiP p j) zV
theorem s_H_init {h : sn_H} {p : Nat} (hn : hN h = p + 1) (hk : hK h p = (0, 2, 3)) (hz : ∀ k, hG h p k = 0) {Q : Option Value → sn_H → Prop} (K : ∀ h', HiX h' p 6 → hN h' = p + 68 → Fx p p h h' → Q none h') : wpE 2 0 [some (.ref p), none] [] h (0, 0) Q := by
  refine r_H_init_0 ?_
  have hn' : h.1 = p + 1 := hn
  have ne : p ≠ h.1 := by omega
  refine r_H_init_10 ((if_neg ne).trans hk) ?_
  have key : ∀ r i h', i + r = 6 → HiX h' p i → hN h' = p + 2 + 11 * i → Fx p p h h' → wpE 2 15 [some (.ref p), some (.int (nI i))] [] h' (1 + 11 * i, 6 + 504 * i) Q := by
    intro r
    induction r with
    | zero =>
      intro i h' e X n F
      have ei : i = 6 := e
      subst ei
      exact r_H_init_15 X.1 X.2.1 (fun _ => K h' X (by omega) F) (fun q => absurd (Int32.le_refl _) q) (fun q => absurd (Int32.le_refl _) q) (fun q => absurd (Int32.le_refl _) q)
    | succ r ih =>
      intro i h' e X n F
      refine r_H_init_15 X.1 X.2.1 (fun q => absurd q (nI_ge (by omega) (by omega))) (fun _ => by omega) (fun _ => by omega) (fun _ => ?_)
      refine r_H_init_29 (by omega) (by omega) ?_
      rw [n]
      refine s_S_init (b := p + 2 + 11 * i) (by rw [al_N, n]) (by rw [← n]; exact al_K _ _) (fun h2 A2 => ?_)
      have S2 := A2.S (by rw [← n]; exact al_K _ _) (fun k => by rw [← n]; exact al_G _ _ k)
      have F2 : Fx (p + 2 + 11 * i) (p + 2 + 11 * i) h' h2 := A2.fx n.symm (Nat.le_refl _)
      have N2 : hN h2 = p + 2 + 11 * i + 1 + 10 := A2.1
      refine r_H_init_33 ((F2 (p + 1) (by omega)).1.trans X.2.2.1) S2.1.1 (inb (by omega)) ?_
      rw [nI_s, cl (by omega), show 1 + 11 * i + 1 + 10 = 1 + 11 * (i + 1) by omega, show 6 + 504 * i + 14 + 490 = 6 + 504 * (i + 1) by omega]
      have F3 : ∀ n, Fx (p + 1) n h2 (setR h2 (p + 1) i (p + 2 + 11 * i)) := fun n => Fx.sR
      refine ih (i + 1) _ (by omega) ⟨(F3 (p + 1) p (by omega)).1.trans ((F2 p (by omega)).1.trans X.1), ?_, ((F3 (p + 2) (p + 1) (by omega)).1.trans ((F2 (p + 1) (by omega)).1.trans X.2.2.1)), fun k => ((F3 (p + 1) p (by omega)).2.1 k).trans (((F2 p (by omega)).2.1 k).trans (X.2.2.2.1 k)), fun j hj => ?_⟩ (by rw [sR_N, N2]; omega) (F.tr ((F2.le (by omega)).ch (by omega) |>.tr (((F3 p).ch (by omega)))))
      · exact ((F3 (p + 1)).R' (by omega) (by omega) 0).trans ((F2.R' (by omega) (by omega) 0).trans X.2.1)
      · by_cases ji : j = i
        · subst ji
          refine ⟨if_pos ⟨rfl, rfl⟩, ?_⟩
          exact (F3 (p + 2 + 11 * j + 11)).St (b := hiP p j) S2 (by unfold hiP; omega) (by unfold hiP; omega)
        · obtain ⟨x1, x2⟩ := X.2.2.2.2 j (by omega)
          refine ⟨(if_neg (fun z => ji z.2)).trans ((F2.R' (by omega) (by omega) j).trans x1), ?_⟩
          exact (F3 (p + 2 + 11 * i)).St (F2.St x2 (by unfold hiP; omega) (by unfold hiP; omega)) (by unfold hiP; omega) (by unfold hiP; omega)
  refine key 6 0 _ rfl ⟨(if_neg ne).trans hk, (if_pos ⟨rfl, rfl⟩).trans (congrArg some hn), ?_, fun k => (if_neg ne).trans (hz k), fun j hj => absurd hj (by omega)⟩ (by rw [sR_N, al_N, hn]) ?_
  · have : p + 1 = h.1 := hn'.symm
    exact if_pos this
  · have f1 : Fx p p h (allocH h (4, 1, 6)) := Fx.al (by omega)
    exact f1.tr Fx.sR
def xP (j : Nat) : Nat := (sn_nth [2, 13, 24, 92, 101, 103] j).getD 0
def ScZ (h : sn_H) : Prop := hK h 101 = (0, 4, 2) ∧ hR h 101 0 = some 102 ∧ hK h 102 = (2, 0, 80) ∧ hG h 101 1 = 0
/-- the objects of the class, i of them -/
def XO (h : sn_H) (i : Nat) : Prop := (1 ≤ i → StA h 2 zV) ∧ (2 ≤ i → StA h 13 zV) ∧ (3 ≤ i → HiX h 24 6) ∧ (4 ≤ i → GrS h 92) ∧ (5 ≤ i → ScZ h)
/-- the links of the class, i of them -/
def XL (h : sn_H) (i : Nat) : Prop := hK h 1 = (0, 0, 5) ∧ ∀ j, j < i → hR h 1 j = some (xP j)
theorem Fx.Hi {e n : Nat} {h h' : sn_H} (f : Fx e n h h') {p : Nat} (X : HiX h p 6) (hb : p + 68 ≤ n) (he : e < p ∨ p + 68 ≤ e) : HiX h' p 6 :=
  ⟨(f p (by omega)).1.trans X.1, (f.R' (by omega) (by omega) 0).trans X.2.1, (f _ (by omega)).1.trans X.2.2.1, fun k => ((f p (by omega)).2.1 k).trans (X.2.2.2.1 k), fun j hj => ⟨(f.R' (by omega) (by omega) j).trans (X.2.2.2.2 j hj).1, f.St (X.2.2.2.2 j hj).2 (by unfold hiP; omega) (by unfold hiP; omega)⟩⟩
theorem Fx.Sc {e n : Nat} {h h' : sn_H} (f : Fx e n h h') (X : ScZ h) (hb : 103 ≤ n) (he : e < 101 ∨ 103 ≤ e) : ScZ h' :=
  ⟨(f _ (by omega)).1.trans X.1, (f.R' (by omega) (by omega) 0).trans X.2.1, (f _ (by omega)).1.trans X.2.2.1, ((f 101 (by omega)).2.1 1).trans X.2.2.2⟩
theorem XO.fx {e n i : Nat} {h h' : sn_H} (X : XO h i) (f : Fx e n h h') (hi : i < 6) (hn : xP i ≤ n) (he : e = 1 ∨ xP i ≤ e) : XO h' i := by
  have q1 : ∀ i, i < 6 → 1 ≤ i → 13 ≤ xP i := by decide
  have q2 : ∀ i, i < 6 → 2 ≤ i → 24 ≤ xP i := by decide
  have q3 : ∀ i, i < 6 → 3 ≤ i → 92 ≤ xP i := by decide
  have q4 : ∀ i, i < 6 → 4 ≤ i → 101 ≤ xP i := by decide
  have q5 : ∀ i, i < 6 → 5 ≤ i → 103 ≤ xP i := by decide
  refine ⟨fun q => ?_, fun q => ?_, fun q => ?_, fun q => ?_, fun q => ?_⟩
  · have := q1 i hi q; exact f.St (X.1 q) (by omega) (by omega)
  · have := q2 i hi q; exact f.St (X.2.1 q) (by omega) (by omega)
  · have := q3 i hi q; exact f.Hi (X.2.2.1 q) (by omega) (by omega)
  · have := q4 i hi q; exact f.Gr (X.2.2.2.1 q) (by omega) (by omega)
  · have := q5 i hi q; exact f.Sc (X.2.2.2.2 q) (by omega) (by omega)
theorem XL.fx {e n i : Nat} {h h' : sn_H} (X : XL h i) (f : Fx e n h h') (hn : 1 < n) (he : e ≠ 1) : XL h' i :=
  ⟨(f 1 hn).1.trans X.1, fun j hj => (f.R' hn (by omega) j).trans (X.2 j hj)⟩
theorem XL.sR {h : sn_H} {i : Nat} (X : XL h i) : XL (setR h 1 i (xP i)) (i + 1) :=
  ⟨X.1, fun j hj => by
    by_cases e : j = i
    · subst e; exact if_pos ⟨rfl, rfl⟩
    · exact (if_neg (fun z => e z.2)).trans (X.2 j (by omega))⟩
theorem s_X_init {h : sn_H} (hn : hN h = 2) (hk : hK h 1 = (0, 0, 5)) {Q : Option Value → sn_H → Prop} (K : ∀ h', XO h' 5 → XL h' 5 → hN h' = 103 → Fx 1 1 h h' → Q none h') : wpE 0 0 [some (.ref 1)] [] h (0, 0) Q := by
  have X0 : XL h 0 := ⟨hk, fun j hj => absurd hj (by omega)⟩
  have O0 : XO h 0 := ⟨fun q => absurd q (by omega), fun q => absurd q (by omega), fun q => absurd q (by omega), fun q => absurd q (by omega), fun q => absurd q (by omega)⟩
  have F0 : Fx 1 1 h h := Fx.rf _ _ _
  refine r_X_init_0 ?_
  rw [hn]
  refine r_X_init_8 ?_
  have K0 : hK (allocH h (0, 1, 14)) 2 = (0, 1, 14) := by rw [← hn]; exact al_K _ _
  have Z0 : ∀ k, hG (allocH h (0, 1, 14)) 2 k = 0 := fun k => by rw [← hn]; exact al_G _ _ k
  refine s_S_init (b := 2) (by rw [al_N, hn]) K0 (fun h1 B0 => ?_)
  have M0 : hN h1 = 13 := B0.1
  have E0 : Fx 2 2 h h1 := B0.fx (by omega) (Nat.le_refl _)
  have P0 := X0.fx E0 (by omega) (by omega)
  have Y0 := O0.fx E0 (by omega) (by decide) (Or.inr (by decide))
  have W0 : XO h1 1 := ⟨fun _ => B0.S K0 Z0, fun q => absurd q (by omega), fun q => absurd q (by omega), fun q => absurd q (by omega), fun q => absurd q (by omega)⟩
  refine r_X_init_12 P0.1 ?_
  have X1 : XL (setR h1 1 0 2) 1 := P0.sR
  have O1 : XO (setR h1 1 0 2) 1 := W0.fx (Fx.sR (n := 200)) (by omega) (by decide) (Or.inl rfl)
  have F1 : Fx 1 1 h (setR h1 1 0 2) := F0.tr (((E0.le (by omega)).ch (by omega)).tr Fx.sR)
  have N1 : hN (setR h1 1 0 2) = 13 := M0
  rw [N1]
  generalize setR h1 1 0 2 = g1 at X1 O1 F1 N1 ⊢
  refine r_X_init_19 ?_
  have K1 : hK (allocH g1 (0, 1, 14)) 13 = (0, 1, 14) := by rw [← N1]; exact al_K _ _
  have Z1 : ∀ k, hG (allocH g1 (0, 1, 14)) 13 k = 0 := fun k => by rw [← N1]; exact al_G _ _ k
  refine s_S_init (b := 13) (by rw [al_N, N1]) K1 (fun h2 B1 => ?_)
  have M1 : hN h2 = 24 := B1.1
  have E1 : Fx 13 13 g1 h2 := B1.fx (by omega) (Nat.le_refl _)
  have P1 := X1.fx E1 (by omega) (by omega)
  have Y1 := O1.fx E1 (by omega) (by decide) (Or.inr (by decide))
  have W1 : XO h2 2 := ⟨fun _ => Y1.1 (by omega), fun _ => B1.S K1 Z1, fun q => absurd q (by omega), fun q => absurd q (by omega), fun q => absurd q (by omega)⟩
  refine r_X_init_23 P1.1 ?_
  have X2 : XL (setR h2 1 1 13) 2 := P1.sR
  have O2 : XO (setR h2 1 1 13) 2 := W1.fx (Fx.sR (n := 200)) (by omega) (by decide) (Or.inl rfl)
  have F2 : Fx 1 1 h (setR h2 1 1 13) := F1.tr (((E1.le (by omega)).ch (by omega)).tr Fx.sR)
  have N2 : hN (setR h2 1 1 13) = 24 := M1
  rw [N2]
  generalize setR h2 1 1 13 = g2 at X2 O2 F2 N2 ⊢
  refine r_X_init_30 ?_
  have K2 : hK (allocH g2 (0, 2, 3)) 24 = (0, 2, 3) := by rw [← N2]; exact al_K _ _
  have Z2 : ∀ k, hG (allocH g2 (0, 2, 3)) 24 k = 0 := fun k => by rw [← N2]; exact al_G _ _ k
  refine s_H_init (p := 24) (by rw [al_N, N2]) K2 Z2 (fun h3 B2 M2 D2 => ?_)
  have E2 : Fx 24 24 g2 h3 := (Fx.al (by omega) : Fx 24 24 g2 (allocH g2 (0, 2, 3))).tr D2
  have P2 := X2.fx E2 (by omega) (by omega)
  have Y2 := O2.fx E2 (by omega) (by decide) (Or.inr (by decide))
  have W2 : XO h3 3 := ⟨fun _ => Y2.1 (by omega), fun _ => Y2.2.1 (by omega), fun _ => B2, fun q => absurd q (by omega), fun q => absurd q (by omega)⟩
  refine r_X_init_34 P2.1 ?_
  have X3 : XL (setR h3 1 2 24) 3 := P2.sR
  have O3 : XO (setR h3 1 2 24) 3 := W2.fx (Fx.sR (n := 200)) (by omega) (by decide) (Or.inl rfl)
  have F3 : Fx 1 1 h (setR h3 1 2 24) := F2.tr (((E2.le (by omega)).ch (by omega)).tr Fx.sR)
  have N3 : hN (setR h3 1 2 24) = 92 := M2
  rw [N3]
  generalize setR h3 1 2 24 = g3 at X3 O3 F3 N3 ⊢
  refine r_X_init_41 ?_
  have K3 : hK (allocH g3 (0, 3, 10)) 92 = (0, 3, 10) := by rw [← N3]; exact al_K _ _
  have Z3 : ∀ k, hG (allocH g3 (0, 3, 10)) 92 k = 0 := fun k => by rw [← N3]; exact al_G _ _ k
  refine s_G_init (b := 92) (by rw [al_N, N3]) K3 (fun h4 B3 => ?_)
  have M3 : hN h4 = 101 := B3.1
  have E3 : Fx 92 92 g3 h4 := B3.fx (by omega) (Nat.le_refl _)
  have P3 := X3.fx E3 (by omega) (by omega)
  have Y3 := O3.fx E3 (by omega) (by decide) (Or.inr (by decide))
  have W3 : XO h4 4 := ⟨fun _ => Y3.1 (by omega), fun _ => Y3.2.1 (by omega), fun _ => Y3.2.2.1 (by omega), fun _ => B3.G K3, fun q => absurd q (by omega)⟩
  refine r_X_init_45 P3.1 ?_
  have X4 : XL (setR h4 1 3 92) 4 := P3.sR
  have O4 : XO (setR h4 1 3 92) 4 := W3.fx (Fx.sR (n := 200)) (by omega) (by decide) (Or.inl rfl)
  have F4 : Fx 1 1 h (setR h4 1 3 92) := F3.tr (((E3.le (by omega)).ch (by omega)).tr Fx.sR)
  have N4 : hN (setR h4 1 3 92) = 101 := M3
  rw [N4]
  generalize setR h4 1 3 92 = g4 at X4 O4 F4 N4 ⊢
  refine r_X_init_52 ?_
  have K4 : hK (allocH g4 (0, 4, 2)) 101 = (0, 4, 2) := by rw [← N4]; exact al_K _ _
  have Z4 : ∀ k, hG (allocH g4 (0, 4, 2)) 101 k = 0 := fun k => by rw [← N4]; exact al_G _ _ k
  refine s_T_init (b := 101) (by rw [al_N, N4]) K4 (fun h5 B4 => ?_)
  have M4 : hN h5 = 103 := B4.1
  have E4 : Fx 101 101 g4 h5 := B4.fx (by omega) (Nat.le_refl _)
  have P4 := X4.fx E4 (by omega) (by omega)
  have Y4 := O4.fx E4 (by omega) (by decide) (Or.inr (by decide))
  have W4 : XO h5 5 := ⟨fun _ => Y4.1 (by omega), fun _ => Y4.2.1 (by omega), fun _ => Y4.2.2.1 (by omega), fun _ => Y4.2.2.2.1 (by omega), fun _ => ⟨(B4.2.1 101 (by omega)).1.trans K4, (B4.2.2 0 _ _ rfl).1, (B4.2.2 0 _ _ rfl).2.1, ((B4.2.1 101 (by omega)).2.1 1).trans (Z4 1)⟩⟩
  refine r_X_init_56 P4.1 ?_
  have X5 : XL (setR h5 1 4 101) 5 := P4.sR
  have O5 : XO (setR h5 1 4 101) 5 := W4.fx (Fx.sR (n := 200)) (by omega) (by decide) (Or.inl rfl)
  have F5 : Fx 1 1 h (setR h5 1 4 101) := F4.tr (((E4.le (by omega)).ch (by omega)).tr Fx.sR)
  have N5 : hN (setR h5 1 4 101) = 103 := M4
  exact K _ O5 X5 N5 F5
