/-! ===== the constructors ===== -/
/-- places below n are as they were, but the links of e -/
def Fx (e n : Nat) (h h' : sn_H) : Prop := ∀ p, p < n → hK h' p = hK h p ∧ (∀ k, hG h' p k = hG h p k) ∧ (p ≠ e → ∀ k, hR h' p k = hR h p k)
theorem Fx.rf (e n : Nat) (h : sn_H) : Fx e n h h := fun _ _ => ⟨rfl, fun _ => rfl, fun _ _ => rfl⟩
theorem Fx.tr {e n : Nat} {h h1 h2 : sn_H} (a : Fx e n h h1) (b : Fx e n h1 h2) : Fx e n h h2 := fun p hp => ⟨(b p hp).1.trans (a p hp).1, fun k => ((b p hp).2.1 k).trans ((a p hp).2.1 k), fun he k => ((b p hp).2.2 he k).trans ((a p hp).2.2 he k)⟩
theorem Fx.le {e n n' : Nat} {h h' : sn_H} (a : Fx e n h h') (hn : n' ≤ n) : Fx e n' h h' := fun p hp => a p (by omega)
theorem Fx.ch {e e' n : Nat} {h h' : sn_H} (a : Fx e n h h') (hn : n ≤ e) : Fx e' n h h' := fun p hp => ⟨(a p hp).1, (a p hp).2.1, fun _ => (a p hp).2.2 (by omega)⟩
theorem Fx.al {e n : Nat} {h : sn_H} {kd : Nat × Nat × Nat} (hn : n ≤ hN h) : Fx e n h (allocH h kd) := fun p hp => by
  have ne : p ≠ h.1 := Nat.ne_of_lt (Nat.lt_of_lt_of_le hp hn)
  exact ⟨if_neg ne, fun _ => if_neg ne, fun _ _ => if_neg ne⟩
theorem Fx.sR {e n k r : Nat} {h : sn_H} : Fx e n h (setR h e k r) := fun p _ => ⟨rfl, fun _ => rfl, fun he _ => if_neg (fun z => he z.1)⟩
theorem Fx.R' {e n : Nat} {h h' : sn_H} (a : Fx e n h h') {p : Nat} (hp : p < n) (he : p ≠ e) (k : Nat) : hR h' p k = hR h p k := (a p hp).2.2 he k
theorem Fx.St {e n : Nat} {h h' : sn_H} (f : Fx e n h h') {b : Nat} {σ : sn_V} (S : StA h b σ) (hb : b + 10 < n) (he : b ≠ e) : StA h' b σ :=
  ⟨⟨(f b (by omega)).1.trans S.1.1, fun j hj => ⟨(f.R' (by omega) he _).trans (S.1.2 j hj).1, (f _ (by omega)).1.trans (S.1.2 j hj).2⟩⟩, fun j hj k => ((f _ (by omega)).2.1 k).trans (S.2 j hj k)⟩
theorem Fx.Gr {e n : Nat} {h h' : sn_H} (f : Fx e n h h') {b : Nat} (S : GrS h b) (hb : b + 8 < n) (he : b ≠ e) : GrS h' b :=
  ⟨(f b (by omega)).1.trans S.1, fun j hj => ⟨(f.R' (by omega) he _).trans (S.2 j hj).1, (f _ (by omega)).1.trans (S.2 j hj).2⟩⟩
def zV : sn_V := fun _ _ => 0
theorem zV_Z : StZ zV := fun _ _ _ _ => rfl
theorem al_K (h : sn_H) (kd : Nat × Nat × Nat) : hK (allocH h kd) (hN h) = kd := if_pos rfl
theorem al_G (h : sn_H) (kd : Nat × Nat × Nat) (k : Nat) : hG (allocH h kd) (hN h) k = 0 := if_pos rfl
theorem al_N (h : sn_H) (kd : Nat × Nat × Nat) : hN (allocH h kd) = hN h + 1 := rfl
theorem sR_N (h : sn_H) (p k r : Nat) : hN (setR h p k r) = hN h := rfl
/-- arrays made one after another, linked from b -/
def Ar (h0 h : sn_H) (b : Nat) (l : List (Nat × Nat × Nat × Nat)) : Prop := hN h = b + 1 + l.length ∧ Fx b (b + 1) h0 h ∧ ∀ j f kd, sn_nth l j = some (f, kd) → hR h b f = some (b + (1 + j)) ∧ hK h (b + (1 + j)) = kd ∧ ∀ k, hG h (b + (1 + j)) k = 0
theorem Ar.nil {h : sn_H} {b : Nat} (hn : hN h = b + 1) : Ar h h b [] := ⟨hn, Fx.rf _ _ _, fun j f kd e => by cases e⟩
theorem nth_app {α : Type} (a : α) : ∀ (l : List α) (j : Nat) (x : α), sn_nth (l ++ [a]) j = some x → (j < l.length ∧ sn_nth l j = some x) ∨ (j = l.length ∧ x = a)
  | [], 0, x, e => Or.inr ⟨rfl, by injection e with e; exact e.symm⟩
  | [], j + 1, x, e => by cases e
  | c :: l, 0, x, e => Or.inl ⟨Nat.succ_pos _, e⟩
  | c :: l, j + 1, x, e => by
    rcases nth_app a l j x e with ⟨h1, h2⟩ | ⟨h1, h2⟩
    · exact Or.inl ⟨Nat.succ_lt_succ h1, h2⟩
    · exact Or.inr ⟨congrArg Nat.succ h1, h2⟩
theorem nth_mem {α : Type} : ∀ (l : List α) (j : Nat) (x : α), sn_nth l j = some x → x ∈ l
  | c :: l, 0, x, e => by injection e with e; rw [e]; exact List.mem_cons_self
  | c :: l, j + 1, x, e => List.mem_cons_of_mem _ (nth_mem l j x e)
theorem Ar.st {h0 h : sn_H} {b : Nat} {l : List (Nat × Nat × Nat × Nat)} (A : Ar h0 h b l) (f : Nat) (kd : Nat × Nat × Nat) (hf : ∀ g ∈ l, g.1 ≠ f) : Ar h0 (setR (allocH h kd) b f (hN h)) b (l ++ [(f, kd)]) := by
  obtain ⟨a1, a2, a3⟩ := A
  have hn : h.1 = b + 1 + l.length := a1
  refine ⟨?_, a2.tr ((Fx.al (by show _ ≤ h.1; omega)).tr Fx.sR), fun j f' kd' e => ?_⟩
  · show h.1 + 1 = b + 1 + (l ++ [(f, kd)]).length
    rw [List.length_append]
    show h.1 + 1 = b + 1 + (l.length + 1)
    omega
  · rcases nth_app _ _ _ _ e with ⟨e1, e2⟩ | ⟨e1, e2⟩
    · obtain ⟨x1, x2, x3⟩ := a3 j f' kd' e2
      have ne : b + (1 + j) ≠ h.1 := by omega
      have nb : b ≠ h.1 := by omega
      refine ⟨?_, (if_neg ne).trans x2, fun k => (if_neg ne).trans (x3 k)⟩
      have nf : f' ≠ f := hf _ (nth_mem _ _ _ e2)
      exact (if_neg (fun z => nf z.2)).trans ((if_neg nb).trans x1)
    · injection e2 with e2 e3
      subst e2 e3
      have ee : b + (1 + j) = h.1 := by omega
      refine ⟨(if_pos ⟨rfl, rfl⟩).trans (by rw [ee]; rfl), (if_pos ee), fun k => if_pos ee⟩
theorem Ar.ka {h0 h : sn_H} {b : Nat} {l : List (Nat × Nat × Nat × Nat)} (A : Ar h0 h b l) {kd kd' : Nat × Nat × Nat} (e : hK h0 b = kd') : hK (allocH h kd) b = kd' := by
  have hn : h.1 = b + 1 + l.length := A.1
  exact (if_neg (by omega : b ≠ h.1)).trans ((A.2.1 b (by omega)).1.trans e)
theorem s_S_init {h : sn_H} {b : Nat} (hn : hN h = b + 1) (hk : hK h b = (0, 1, 14)) {Q : Option Value → sn_H → Prop} (K : ∀ h', Ar h h' b [(4, 1, 0, 4), (5, 1, 0, 3), (6, 1, 0, 3), (7, 1, 0, 12), (8, 1, 0, 12), (9, 1, 0, 24), (10, 1, 0, 24), (11, 1, 0, 24), (12, 1, 0, 288), (13, 1, 0, 96)] → Q none h') : wpE 1 0 [some (.ref b)] [] h (0, 0) Q := by
  have A0 := Ar.nil hn
  refine r_S_init_0 ?_
  have A1 := A0.st 4 (1, 0, 4) (by decide)
  refine r_S_init_8 (A0.ka hk) ?_
  generalize setR (allocH h (1, 0, 4)) b 4 (hN h) = h1 at A1 ⊢
  have A2 := A1.st 5 (1, 0, 3) (by decide)
  refine r_S_init_15 (A1.ka hk) ?_
  generalize setR (allocH h1 (1, 0, 3)) b 5 (hN h1) = h2 at A2 ⊢
  have A3 := A2.st 6 (1, 0, 3) (by decide)
  refine r_S_init_22 (A2.ka hk) ?_
  generalize setR (allocH h2 (1, 0, 3)) b 6 (hN h2) = h3 at A3 ⊢
  have A4 := A3.st 7 (1, 0, 12) (by decide)
  refine r_S_init_30 (A3.ka hk) ?_
  generalize setR (allocH h3 (1, 0, 12)) b 7 (hN h3) = h4 at A4 ⊢
  have A5 := A4.st 8 (1, 0, 12) (by decide)
  refine r_S_init_38 (A4.ka hk) ?_
  generalize setR (allocH h4 (1, 0, 12)) b 8 (hN h4) = h5 at A5 ⊢
  have A6 := A5.st 9 (1, 0, 24) (by decide)
  refine r_S_init_46 (A5.ka hk) ?_
  generalize setR (allocH h5 (1, 0, 24)) b 9 (hN h5) = h6 at A6 ⊢
  have A7 := A6.st 10 (1, 0, 24) (by decide)
  refine r_S_init_54 (A6.ka hk) ?_
  generalize setR (allocH h6 (1, 0, 24)) b 10 (hN h6) = h7 at A7 ⊢
  have A8 := A7.st 11 (1, 0, 24) (by decide)
  refine r_S_init_62 (A7.ka hk) ?_
  generalize setR (allocH h7 (1, 0, 24)) b 11 (hN h7) = h8 at A8 ⊢
  have A9 := A8.st 12 (1, 0, 288) (by decide)
  refine r_S_init_71 (A8.ka hk) ?_
  generalize setR (allocH h8 (1, 0, 288)) b 12 (hN h8) = h9 at A9 ⊢
  have A10 := A9.st 13 (1, 0, 96) (by decide)
  refine r_S_init_79 (A9.ka hk) ?_
  exact K _ A10
theorem s_G_init {h : sn_H} {b : Nat} (hn : hN h = b + 1) (hk : hK h b = (0, 3, 10)) {Q : Option Value → sn_H → Prop} (K : ∀ h', Ar h h' b [(1, 1, 0, 17), (2, 1, 0, 17), (3, 1, 0, 289), (4, 1, 0, 17), (5, 1, 0, 17), (6, 1, 0, 17), (7, 1, 0, 17), (8, 1, 0, 17)] → Q none h') : wpE 3 0 [some (.ref b)] [] h (0, 0) Q := by
  have A0 := Ar.nil hn
  refine r_G_init_0 ?_
  have A1 := A0.st 1 (1, 0, 17) (by decide)
  refine r_G_init_9 (A0.ka hk) ?_
  generalize setR (allocH h (1, 0, 17)) b 1 (hN h) = h1 at A1 ⊢
  have A2 := A1.st 2 (1, 0, 17) (by decide)
  refine r_G_init_17 (A1.ka hk) ?_
  generalize setR (allocH h1 (1, 0, 17)) b 2 (hN h1) = h2 at A2 ⊢
  have A3 := A2.st 3 (1, 0, 289) (by decide)
  refine r_G_init_26 (A2.ka hk) ?_
  generalize setR (allocH h2 (1, 0, 289)) b 3 (hN h2) = h3 at A3 ⊢
  have A4 := A3.st 4 (1, 0, 17) (by decide)
  refine r_G_init_34 (A3.ka hk) ?_
  generalize setR (allocH h3 (1, 0, 17)) b 4 (hN h3) = h4 at A4 ⊢
  have A5 := A4.st 5 (1, 0, 17) (by decide)
  refine r_G_init_42 (A4.ka hk) ?_
  generalize setR (allocH h4 (1, 0, 17)) b 5 (hN h4) = h5 at A5 ⊢
  have A6 := A5.st 6 (1, 0, 17) (by decide)
  refine r_G_init_50 (A5.ka hk) ?_
  generalize setR (allocH h5 (1, 0, 17)) b 6 (hN h5) = h6 at A6 ⊢
  have A7 := A6.st 7 (1, 0, 17) (by decide)
  refine r_G_init_58 (A6.ka hk) ?_
  generalize setR (allocH h6 (1, 0, 17)) b 7 (hN h6) = h7 at A7 ⊢
  have A8 := A7.st 8 (1, 0, 17) (by decide)
  refine r_G_init_66 (A7.ka hk) ?_
  exact K _ A8
theorem s_T_init {h : sn_H} {b : Nat} (hn : hN h = b + 1) (hk : hK h b = (0, 4, 2)) {Q : Option Value → sn_H → Prop} (K : ∀ h', Ar h h' b [(0, 2, 0, 80)] → Q none h') : wpE 4 0 [some (.ref b)] [] h (0, 0) Q := by
  have A0 := Ar.nil hn
  refine r_T_init_0 ?_
  have A1 := A0.st 0 (2, 0, 80) (by decide)
  refine r_T_init_9 (A0.ka hk) ?_
  exact K _ A1
theorem s_M_init {h : sn_H} {b : Nat} (hn : hN h = b + 1) (hk : hK h b = (0, 5, 16)) {Q : Option Value → sn_H → Prop} (K : ∀ h', Ar h h' b [(0, 1, 0, 596), (1, 1, 0, 596), (2, 1, 0, 3576), (4, 1, 0, 80), (7, 1, 0, 17), (8, 1, 0, 17), (9, 1, 0, 16)] → Q none h') : wpE 93 0 [some (.ref b)] [] h (0, 0) Q := by
  have A0 := Ar.nil hn
  refine r_M_init_0 ?_
  have A1 := A0.st 0 (1, 0, 596) (by decide)
  refine r_M_init_10 (A0.ka hk) ?_
  generalize setR (allocH h (1, 0, 596)) b 0 (hN h) = h1 at A1 ⊢
  have A2 := A1.st 1 (1, 0, 596) (by decide)
  refine r_M_init_19 (A1.ka hk) ?_
  generalize setR (allocH h1 (1, 0, 596)) b 1 (hN h1) = h2 at A2 ⊢
  have A3 := A2.st 2 (1, 0, 3576) (by decide)
  refine r_M_init_28 (A2.ka hk) ?_
  generalize setR (allocH h2 (1, 0, 3576)) b 2 (hN h2) = h3 at A3 ⊢
  have A4 := A3.st 4 (1, 0, 80) (by decide)
  refine r_M_init_36 (A3.ka hk) ?_
  generalize setR (allocH h3 (1, 0, 80)) b 4 (hN h3) = h4 at A4 ⊢
  have A5 := A4.st 7 (1, 0, 17) (by decide)
  refine r_M_init_44 (A4.ka hk) ?_
  generalize setR (allocH h4 (1, 0, 17)) b 7 (hN h4) = h5 at A5 ⊢
  have A6 := A5.st 8 (1, 0, 17) (by decide)
  refine r_M_init_52 (A5.ka hk) ?_
  generalize setR (allocH h5 (1, 0, 17)) b 8 (hN h5) = h6 at A6 ⊢
  have A7 := A6.st 9 (1, 0, 16) (by decide)
  refine r_M_init_60 (A6.ka hk) ?_
  exact K _ A7
