/-! ===== the reason and the commit, on both sides ===== -/
theorem Z_start {σ : sn_V} {i : Nat} (Z : StZ σ) (hi : i < 8) : StZ (fStart σ i) :=
  ((((((Z.upz (by decide)).upz (show i < 24 by omega)).upz (show i < 24 by omega)).upz (show i < 24 by omega)).cpz (show i * 12 + 12 ≤ 288 by omega)).cpz (show i * 12 + 12 ≤ 96 by omega))
theorem Z_read {σ : sn_V} {i k : Nat} (Z : StZ σ) (hi : i < 8) : StZ (fRead σ i k) := Z.upz (show i < 24 by omega)
theorem Z_write {σ : sn_V} {i k : Nat} {v : Int32} (Z : StZ σ) (hi : i < 8) (hk : k < 12) : StZ (fWrite σ i k v) := (Z.upz (show i < 24 by omega)).upz (show i * 12 + k < 96 by omega)
theorem Z_free {σ : sn_V} {i : Nat} (Z : StZ σ) : StZ (fFree σ i) := Z.upz (by decide)
theorem Z_give {σ : sn_V} {i : Nat} (Z : StZ σ) : StZ (fGive σ i) := (Z_free Z).upz (by decide)
theorem Z_ref {σ : sn_V} {i y : Nat} (Z : StZ σ) (hy : y < 4) : StZ (fRef σ i y) := (Z_free Z).upz (show y < 4 from hy)
theorem Z_keep {σ : sn_V} {i r : Nat} (Z : StZ σ) (hr : r < 24) : StZ (fKeep σ i r) := by
  have Z1 : StZ (fKeep1 σ i r) := ((((((Z.upz (by decide)).upz (by decide)).upz (show r < 24 from hr)).upz (show r < 24 from hr)).upz (show r < 24 from hr)).cpz (show r * 12 + 12 ≤ 288 by omega))
  intro j k hj hk
  unfold fKeep fKC
  rw [if_neg (fun z => by rw [z.1] at hk; have : 12 ≤ k := hk; omega), if_neg (fun z => by rw [z.1] at hk; have : 12 ≤ k := hk; omega)]
  exact Z1 j k hj hk
theorem s_X_reason {h : sn_H} {b i p c : Nat} {σ : sn_V} {Q : Option Value → sn_H → Prop} (X : XS h) (S : GrS h 92) (A : StA h b σ) (hb : b + 10 < 92) (hσ : σ 0 1 = nI c) (hc : c < 2 ^ 30) (hi : i < 8) (hp : p < 3)
    (H : ∀ γ, Q (some (.int (nI (wyC σ c i p)))) (hpg h 92 γ)) : wpE 27 0 [some (.ref 1), some (.ref b), some (.int (nI i)), some (.int (nI p))] [] h (0, 0) Q := by
  obtain ⟨γ0, e⟩ := grA h S
  have hn : min 16 c ≤ 16 := Nat.min_le_left _ _
  have hb' : b + 10 < 92 ∨ 92 + 8 < b := Or.inl hb
  unfold wyC at H
  refine r_X_reasonToRefuse_0 A.1.1 (s_S_overwritesNewer A hi (fun o => ?_) (fun o => ?_))
  · have hh := H γ0
    rw [if_pos (ovC_t.mpr o), ← e] at hh
    exact r_X_reasonToRefuse_5 X.1 X.2.2.2.2.1 S.1 (fun z => absurd z bi_t) (fun z => absurd z bi_t) (fun _ => hh)
  · rw [if_neg (fun z => o (ovC_t.mp z))] at H
    refine r_X_reasonToRefuse_5 X.1 X.2.2.2.2.1 S.1 (fun _ z => ?_) (fun _ z => ?_) (fun z => absurd bi_f z)
    · rw [nI_leI (by omega) (by omega)] at z
      rw [if_neg (by omega)] at H
      rw [e]
      refine s_G_load S A hb' hσ hc (fun γ1 G1 => ?_)
      refine r_X_reasonToRefuse_25 X.1 X.2.2.2.2.1 S.1 ?_
      refine s_G_join S A hb' hn (fun x _ => by unfold nrC; omega) (by omega) hσ G1 (fun γ2 G2 => ?_)
      refine r_X_reasonToRefuse_34 X.1 X.2.2.2.2.1 S.1 ?_
      refine s_G_findRing (n := min 16 c + 1) (R := gRo σ c i) (nn := nrJ (min 16 c) (c + 1) (nnC c (min 16 c))) S (by omega) (by omega) G2.1 (fun x j hx hj => ((G2.2 x hx).2.2.1 j (by omega)).trans gR_iff.symm) (fun j hj => (G2.2 j hj).2.1) (fun γ3 f1 f2 f3 => ?_)
      have q16 : rgQ (gRo σ c i) (min 16 c + 1) ≤ 17 := by
        unfold rgQ
        split
        · omega
        · exact nst_le _
      have e9 : hG (hpg h 92 γ3) 92 9 = nI (rgQ (gRo σ c i) (min 16 c + 1)) := by rw [hpg_get0]; exact f2
      refine r_X_reasonToRefuse_41 X.1 X.2.2.2.2.1 S.1 (fun y w => ?_) (fun y w => ?_) (fun y => ?_)
      · rw [e9, nI_le0 (by omega)] at y
        rw [nI_leI (by omega) (by omega)] at w
        rw [if_neg (by omega), if_neg (by omega)] at H
        refine s_G_hasPivot (n := min 16 c + 1) (O := gOo σ c i) S (by omega) (by omega) (by rw [f1 0 0 (by omega) (by omega) (by omega)]; exact G2.1) (fun x j hx hj => by rw [f1 5 x (by omega) (by omega) (by omega)]; exact ((G2.2 x hx).2.2.2.1 j hj).trans gO_iff.symm) (fun _ _ q => gO_lt q) (fun o2 => ?_) (fun o2 => ?_)
        · have hh := H γ3
          rw [if_pos (pvK_t.mpr o2)] at hh
          exact r_X_reasonToRefuse_67 (fun q => absurd q bi_t) (fun _ => hh)
        · have hh := H γ3
          rw [if_neg (fun q => o2 (pvK_t.mp q))] at hh
          exact r_X_reasonToRefuse_67 (fun _ => hh) (fun q => absurd bi_f q)
      · rw [e9, nI_le0 (by omega)] at y
        rw [nI_leI (by omega) (by omega)] at w
        have hh := H γ3
        rw [if_neg (by omega), if_pos (by omega)] at hh
        exact hh
      · rw [e9, nI_le0 (by omega)] at y
        have hh := H γ3
        rw [if_pos (by omega)] at hh
        exact hh
    · rw [nI_leI (by omega) (by omega)] at z
      have hh := H γ0
      rw [if_pos (by omega), ← e] at hh
      exact hh
/-- what a commit answers, and what it makes of the state -/
def cmV (σ : sn_V) (c i p : Nat) : Int32 := if 0 < wyC σ c i p then -(nI (wyC σ c i p)) else nI (c + 1)
def cmS (σ : sn_V) (c i p : Nat) : sn_V := if 0 < wyC σ c i p then fRef σ i (wyC σ c i p) else fKeep σ i (8 + c % 16)
def cmC (σ : sn_V) (c i p : Nat) : Nat := if 0 < wyC σ c i p then c else c + 1
theorem cmC_le {σ : sn_V} {c i p : Nat} : cmC σ c i p ≤ c + 1 := by unfold cmC; split <;> omega
theorem Z_cm {σ : sn_V} {c i p : Nat} (Z : StZ σ) : StZ (cmS σ c i p) := by
  unfold cmS
  split
  · exact Z_ref Z (wyC_lt _ _ _ _)
  · exact Z_keep Z (by omega)
theorem s_X_finish {h : sn_H} {b i p c : Nat} {σ : sn_V} {Q : Option Value → sn_H → Prop} (X : XS h) (S : GrS h 92) (A : StA h b σ) (hb : b + 10 < 92) (hσ : σ 0 1 = nI c) (hc : c < 2 ^ 30) (hi : i < 8) (hp : p < 3) (h0 : σ 0 0 = nI p)
    (H : ∀ γ, Q (some (.int (cmV σ c i p))) (hput (hpg h 92 γ) b (cmS σ c i p))) : wpE 26 0 [some (.ref 1), some (.ref b), some (.int (nI i)), none] [] h (0, 0) Q := by
  refine r_X_finish_0 A.1.1 X.1 ?_
  have e0 : hG h b 0 = nI p := (A.2 0 (by decide) 0).trans h0
  rw [e0]
  refine s_X_reason X S A hb hσ hc hi hp (fun γ => ?_)
  have H := H γ
  have A2 : StA (hpg h 92 γ) b σ := hpg_St A (Or.inl hb)
  have w4 := wyC_lt σ c i p
  unfold cmV cmS at H
  generalize wyC σ c i p = y at H w4 ⊢
  refine r_X_finish_10 A.1.1 A.1.f4 A.1.k1 (fun z => ?_) (fun z => inb (by omega)) (fun z => ?_)
  · have y0 : y = 0 := by rw [← nI_0] at z; exact (nI_eq (by omega) (by omega)).mp z
    rw [if_neg (by omega), if_neg (by omega)] at H
    exact s_S_keepCommit A2 hi hc hσ (r_X_finish_29 H)
  · have y0 : 0 < y := by
      rcases Nat.eq_zero_or_pos y with q | q
      · rw [q, nI_0] at z; exact absurd rfl z
      · exact q
    rw [if_pos y0, if_pos y0] at H
    rw [cl (by omega : y < 2 ^ 31), A2.put]
    simp only [hput_set0, hput_get0, hput_set, hput_get, Nat.reduceLeDiff]
    exact H
/-- the Model's commit, where class and Model are related -/
theorem m_commits {h : sn_H} {m c i p : Nat} {σ μ : sn_V} {Q : Option Value → sn_H → Prop} (S : MoS h m) (R : Rel c σ (μ 1)) (hc : c + 1 < 2 ^ 30) (hi : i < 8) (hp : p < 3) (h0 : σ 0 0 = nI p) (ho : bitP (σ 0 3) i)
    (H : ∀ μ', (∀ j k, j ≠ 1 → j ≠ 5 → j ≠ 6 → ¬ (j = 0 ∧ k = 6) → μ' j k = μ j k) → Rel (cmC σ c i p) (cmS σ c i p) (μ' 1) → Q (some (.int (cmV σ c i p))) (mpt h m μ')) :
    wpE 115 0 [some (.ref m), some (.int (nI i)), none, none] [] (mpt h m μ) (0, 0) Q := by
  obtain ⟨p', p1, p2, p3⟩ := R.2.1
  have ep : p' = p := by rw [p2] at h0; exact (nI_eq (by omega) (by omega)).mp h0
  subst ep
  have w4 := wyC_lt σ c i p'
  have ew := wy_same R (by omega) hi ho p1
  unfold cmV cmS cmC at H
  refine s_M_commits S hc R.c2 hi p1 p3 (fun y μ' g0 g1 g2 g3 => ?_) (fun y μ' g0 g1 g2 g3 g4 g5 g6 => ?_)
  · rw [ew] at y g1 g2 ⊢
    rw [if_pos y, if_pos y, if_pos y] at H
    exact H μ' g0 (rl_refuse R hi y w4 g1 g2 g3)
  · rw [ew] at y
    rw [if_neg (by omega), if_neg (by omega), if_neg (by omega)] at H
    exact H μ' g0 (rl_keep R hi ho g1 g2 g3 g4 g5 g6)
