/-! ===== the Graph: load, join ===== -/
def nrC (c n i : Nat) : Nat := 8 + (c - n + i) % 16
def nnC (c n i : Nat) : Nat := c - n + 1 + i
def dnA (n i j : Nat) : Prop := i < n ∧ j < n ∧ i ≠ j
def dnP (n a d i j : Nat) : Prop := i < n ∧ j < n ∧ i ≠ j ∧ (i < a ∨ (i = a ∧ j < d))
theorem bitP_n0 {k : Nat} (hk : k < 32) : ¬ bitP (nI 0) k := by rw [nI_0]; exact bitP_0 hk
theorem s_G_loadLoop {h : sn_H} {g b n c : Nat} {σ : sn_V} {Q : Option Value → sn_H → Prop} (S : GrS h g) (A : StA h b σ) (hb : b + 10 < g ∨ g + 8 < b) (hc : c < 2 ^ 30) (hn : n ≤ 16) (hnc : n ≤ c)
    (H : ∀ γ, GG γ σ n (nrC c n) (nnC c n) (fun _ _ => False) → wpE 29 53 [some (.ref g), some (.ref b), none, some (.int (nI 0)), none] [] (hpg h g γ) (0, 0) Q) :
    ∀ (m i : Nat) (γ : sn_V), i + m = n → γ 0 0 = nI n → (∀ k, k < i → γ 1 k = nI (nrC c n k) ∧ γ 2 k = nI (nnC c n k) ∧ γ 4 k = nI 0 ∧ γ 5 k = nI 0) →
      wpE 29 22 [some (.ref g), some (.ref b), some (.int (nI (c - n + 1))), some (.int (nI i)), none] [] (hpg h g γ) (0, 0) Q := by
  intro m
  induction m with
  | zero =>
    intro i γ hi h0 hk
    have hin : i = n := by omega
    subst hin
    refine r_G_load_22 S.1 (hpg_St A hb).1.1 S.f1.1 S.f1.2 S.f2.1 S.f2.2 S.f4.1 S.f4.2 S.f5.1 S.f5.2 (fun _ => ?_) (fun z => ?_) (fun z => ?_) (fun z => ?_) (fun z => ?_) (fun z => ?_)
    · refine H γ ⟨h0, fun k hk' => ?_⟩
      obtain ⟨w1, w2, w3, w4⟩ := hk k hk'
      refine ⟨w1, w2, fun j hj => ?_, fun j hj => ?_, fun j hj => hj.elim⟩
      · rw [w3]; simp [bitP_n0 hj]
      · rw [w4]; simp [bitP_n0 hj]
    all_goals (rw [hpg_get0, h0] at z; have := nle_nI z (by omega) (by omega); omega)
  | succ m ih =>
    intro i γ hi h0 hk
    have e1 : nI (c - n + 1) + nI i = nI (nnC c n i) := by rw [nI_add]; rfl
    have e2 : nI 8 + ((nI (c - n + 1) + nI i - nI 1) &&& nI 15) = nI (nrC c n i) := by
      have r := row_of (c := c - n + i) (by omega)
      rw [nI_s (c - n + i), show c - n + i + 1 = nnC c n i by unfold nnC; omega] at r
      rw [e1]
      unfold nrC
      exact r
    refine r_G_load_22 S.1 (hpg_St A hb).1.1 S.f1.1 S.f1.2 S.f2.1 S.f2.2 S.f4.1 S.f4.2 S.f5.1 S.f5.2 (fun z => ?_) (fun _ => inb (by omega)) (fun _ => inb (by omega)) (fun _ => inb (by omega)) (fun _ => inb (by omega)) (fun _ => ?_)
    · rw [hpg_get0, h0] at z
      exact absurd z (nI_ge (by omega) (by omega))
    · rw [cl (by omega : i < 2 ^ 31), e2, e1, nI_s, hpg_set (by decide), hpg_set (by decide), hpg_set (by decide), hpg_set (by decide)]
      refine r_G_load_48 (ih (i + 1) _ (by omega) ?_ (fun k hk' => ?_))
      · rw [up_n (by omega), up_n (by omega), up_n (by omega), up_n (by omega)]; exact h0
      · by_cases q : k = i
        · subst q
          refine ⟨?_, ?_, ?_, ?_⟩
          · rw [up_n (by omega), up_n (by omega), up_n (by omega), up_s]
          · rw [up_n (by omega), up_n (by omega), up_s]
          · rw [up_n (by omega), up_s]
          · rw [up_s]
        · obtain ⟨w1, w2, w3, w4⟩ := hk k (by omega)
          refine ⟨?_, ?_, ?_, ?_⟩
          · rw [up_n (by omega), up_n (by omega), up_n (by omega), up_n (by omega)]; exact w1
          · rw [up_n (by omega), up_n (by omega), up_n (by omega), up_n (by omega)]; exact w2
          · rw [up_n (by omega), up_n (by omega), up_n (by omega), up_n (by omega)]; exact w3
          · rw [up_n (by omega), up_n (by omega), up_n (by omega), up_n (by omega)]; exact w4
theorem s_G_pairs {h : sn_H} {g b n : Nat} {σ : sn_V} {nr nn : Nat → Nat} {Q : Option Value → sn_H → Prop} (S : GrS h g) (A : StA h b σ) (hb : b + 10 < g ∨ g + 8 < b) (hn : n ≤ 17) (hnr : ∀ i, i < n → nr i < 24) (i : Nat) (hi : i < n)
    (H : ∀ γ, GG γ σ n nr nn (dnP n (i + 1) 0) → wpE 29 53 [some (.ref g), some (.ref b), none, some (.int (nI (i + 1))), none] [] (hpg h g γ) (0, 0) Q) :
    ∀ (m j : Nat) (γ : sn_V), j + m = n → GG γ σ n nr nn (dnP n i j) → wpE 29 64 [some (.ref g), some (.ref b), none, some (.int (nI i)), some (.int (nI j))] [] (hpg h g γ) (0, 0) Q := by
  intro m
  induction m with
  | zero =>
    intro j γ hj G
    have hjn : j = n := by omega
    subst hjn
    refine r_G_load_64 S.1 (fun _ => ?_) (fun z => ?_) (fun z => ?_)
    · rw [nI_s]
      exact H γ (G.mono (fun x y hx => by unfold dnP; omega))
    all_goals (rw [hpg_get0, G.1] at z; have := nle_nI z (by omega) (by omega); omega)
  | succ m ih =>
    intro j γ hj G
    refine r_G_load_64 S.1 (fun z => ?_) (fun _ z => ?_) (fun _ z => ?_)
    · rw [hpg_get0, G.1] at z
      exact absurd z (nI_ge (by omega) (by omega))
    · have hij : i = j := (nI_eq (by omega) (by omega)).mp z
      rw [nI_s]
      exact ih (j + 1) γ (by omega) (G.mono (fun x y hx => by unfold dnP; omega))
    · have hij : ¬ i = j := fun q => z (by rw [q])
      refine s_G_link (b := b) (dn := dnP n i j) S A hb hn hnr (fun x y q => q.2.1) G hi (by omega) (fun γ' G' => ?_)
      refine r_G_load_87 ?_
      rw [nI_s]
      exact ih (j + 1) γ' (by omega) (G'.mono (fun x y hx => by unfold dnP; omega))
theorem s_G_rows {h : sn_H} {g b n : Nat} {σ : sn_V} {nr nn : Nat → Nat} {Q : Option Value → sn_H → Prop} (S : GrS h g) (A : StA h b σ) (hb : b + 10 < g ∨ g + 8 < b) (hn : n ≤ 17) (hnr : ∀ i, i < n → nr i < 24)
    (H : ∀ γ, GG γ σ n nr nn (dnA n) → Q none (hpg h g γ)) :
    ∀ (m i : Nat) (γ : sn_V), i + m = n → GG γ σ n nr nn (dnP n i 0) → wpE 29 53 [some (.ref g), some (.ref b), none, some (.int (nI i)), none] [] (hpg h g γ) (0, 0) Q := by
  intro m
  induction m with
  | zero =>
    intro i γ hi G
    have hin : i = n := by omega
    subst hin
    refine r_G_load_53 S.1 (fun _ => ?_) (fun z => ?_)
    · exact H γ (G.mono (fun x y hx => by unfold dnP dnA; omega))
    · rw [hpg_get0, G.1] at z
      have := nle_nI z (by omega) (by omega)
      omega
  | succ m ih =>
    intro i γ hi G
    refine r_G_load_53 S.1 (fun z => ?_) (fun _ => ?_)
    · rw [hpg_get0, G.1] at z
      exact absurd z (nI_ge (by omega) (by omega))
    · exact s_G_pairs S A hb hn hnr i (by omega) (fun γ' G' => ih (i + 1) γ' (by omega) G') n 0 γ (by omega) G
theorem min16 {c : Nat} (hc : c < 2 ^ 30) : (if nI 16 < nI c then nI 16 else nI c) = nI (min 16 c) := by
  by_cases q : 16 < c
  · rw [if_pos, Nat.min_eq_left (by omega)]
    exact Int32.not_le.mp (nI_ge q (by omega))
  · rw [if_neg, Nat.min_eq_right (by omega)]
    exact Int32.not_lt.mpr (nI_le (by omega) (by omega))
theorem s_G_load {h : sn_H} {g b c : Nat} {γ σ : sn_V} {Q : Option Value → sn_H → Prop} (S : GrS h g) (A : StA h b σ) (hb : b + 10 < g ∨ g + 8 < b) (hσ : σ 0 1 = nI c) (hc : c < 2 ^ 30)
    (H : ∀ γ, GG γ σ (min 16 c) (nrC c (min 16 c)) (nnC c (min 16 c)) (dnA (min 16 c)) → Q none (hpg h g γ)) : wpE 29 0 [some (.ref g), some (.ref b), none, none, none] [] (hpg h g γ) (0, 0) Q := by
  have c1 : ∀ γ, hG (hpg h g γ) b 1 = nI c := fun γ => ((hpg_St A hb).2 0 (by omega) 1).trans hσ
  have e : nI c - nI (min 16 c) + nI 1 = nI (c - min 16 c + 1) := by
    rw [show nI c = nI (c - min 16 c) + nI (min 16 c) by rw [nI_add]; congr 1; omega, Int32.add_sub_cancel, nI_s]
  refine r_G_load_0 (hpg_St A hb).1.1 S.1 ?_
  rw [c1, min16 hc, hpg_set0, c1, hpg_get0, up_s, e]
  refine s_G_loadLoop S A hb hc (by omega) (by omega) (fun γ' G' => ?_) (min 16 c) 0 _ (by omega) up_s (fun k hk => by omega)
  exact s_G_rows S A hb (by omega) (fun i hi => by unfold nrC; omega) H (min 16 c) 0 γ' (by omega) (G'.mono (fun x y hx => ⟨False.elim, fun q => by unfold dnP at q; omega⟩))
def nrJ (n s : Nat) (nr : Nat → Nat) (i : Nat) : Nat := if i = n then s else nr i
def dnJ (n a i j : Nat) : Prop := dnA n i j ∨ (j = n ∧ i < a) ∨ (i = n ∧ j < a)
theorem s_G_joinLoop {h : sn_H} {g b n : Nat} {σ : sn_V} {nr nn : Nat → Nat} {Q : Option Value → sn_H → Prop} (S : GrS h g) (A : StA h b σ) (hb : b + 10 < g ∨ g + 8 < b) (hn : n ≤ 16) (hnr : ∀ i, i < n + 1 → nr i < 24)
    (H : ∀ γ, GG γ σ (n + 1) nr nn (dnA (n + 1)) → Q none (hpg h g γ)) :
    ∀ (m i : Nat) (γ : sn_V), i + m = n → GG γ σ (n + 1) nr nn (dnJ n i) → wpE 35 40 [some (.ref g), some (.ref b), none, some (.int (nI n)), some (.int (nI i))] [] (hpg h g γ) (0, 0) Q := by
  intro m
  induction m with
  | zero =>
    intro i γ hi G
    have hin : i = n := by omega
    subst hin
    refine r_G_join_40 S.1 (fun _ => ?_) (fun z => ?_)
    · exact H γ (G.mono (fun x y hx => by unfold dnJ dnA; omega))
    · have := nle_nI z (by omega) (by omega)
      omega
  | succ m ih =>
    intro i γ hi G
    refine r_G_join_40 S.1 (fun z => ?_) (fun _ => ?_)
    · exact absurd z (nI_ge (by omega) (by omega))
    · refine s_G_link (dn := dnJ n i) S A hb (by omega) hnr (fun x y q => by unfold dnJ dnA at q; omega) G (by omega) (by omega) (fun γ' G' => ?_)
      refine r_G_join_54 S.1 ?_
      refine s_G_link S A hb (by omega) hnr (fun x y q => by unfold dnJ dnA at q; omega) G' (by omega) (by omega) (fun γ2 G2 => ?_)
      refine r_G_join_62 ?_
      rw [nI_s]
      exact ih (i + 1) γ2 (by omega) (G2.mono (fun x y hx => by unfold dnJ dnA; omega))
theorem s_G_join {h : sn_H} {g b n c s : Nat} {γ σ : sn_V} {nr nn : Nat → Nat} {Q : Option Value → sn_H → Prop} (S : GrS h g) (A : StA h b σ) (hb : b + 10 < g ∨ g + 8 < b) (hn : n ≤ 16) (hnr : ∀ i, i < n → nr i < 24) (hs : s < 24) (hσ : σ 0 1 = nI c) (G : GG γ σ n nr nn (dnA n))
    (H : ∀ γ, GG γ σ (n + 1) (nrJ n s nr) (nrJ n (c + 1) nn) (dnA (n + 1)) → Q none (hpg h g γ)) : wpE 35 0 [some (.ref g), some (.ref b), some (.int (nI s)), none, none] [] (hpg h g γ) (0, 0) Q := by
  have c1 : ∀ γ, hG (hpg h g γ) b 1 = nI c := fun γ => ((hpg_St A hb).2 0 (by omega) 1).trans hσ
  have hn0 : hG (hpg h g γ) g 0 = nI n := by rw [hpg_get0]; exact G.1
  refine r_G_join_0 S.1 (hpg_St A hb).1.1 S.f1.1 S.f1.2 S.f2.1 S.f2.2 S.f4.1 S.f4.2 S.f5.1 S.f5.2 (fun _ => ?_) (fun _ => ?_) (fun _ => ?_) (fun _ => ?_) (fun _ => ?_) (fun z => ?_)
  case _ => rw [hn0]; exact inb (by omega)
  case _ => rw [hn0]; exact inb (by omega)
  case _ => rw [hn0]; exact inb (by omega)
  case _ => rw [hn0]; exact inb (by omega)
  case _ =>
    rw [hn0, cl (by omega : n < 2 ^ 31), hpg_set0, c1, nI_s, nI_s, hpg_set (by decide), hpg_set (by decide), hpg_set (by decide), hpg_set (by decide)]
    refine s_G_joinLoop (nr := nrJ n s nr) (nn := nrJ n (c + 1) nn) S A hb hn (fun i hi => ?_) H n 0 _ (by omega) ⟨?_, fun i hi => ?_⟩
    · unfold nrJ; split
      · exact hs
      · exact hnr i (by omega)
    · rw [up_n (by omega), up_n (by omega), up_n (by omega), up_n (by omega), up_s]
    · by_cases q : i = n
      · subst q
        refine ⟨?_, ?_, fun j hj => ?_, fun j hj => ?_, fun j hj => ?_⟩
        · rw [up_n (by omega), up_n (by omega), up_n (by omega), up_s]; simp [nrJ]
        · rw [up_n (by omega), up_n (by omega), up_s]; simp [nrJ]
        · rw [up_n (by omega), up_s]
          exact ⟨fun z => absurd z (bitP_n0 (by omega)), fun z => by unfold dnJ dnA at z; omega⟩
        · rw [up_s]
          exact ⟨fun z => absurd z (bitP_n0 (by omega)), fun z => by unfold dnJ dnA at z; omega⟩
        · unfold dnJ dnA at hj; omega
      · obtain ⟨w1, w2, w3, w4, w5⟩ := G.2 i (by omega)
        have ee : ∀ j, j < n → ed σ (nrJ n s nr) (nrJ n (c + 1) nn) i j = ed σ nr nn i j ∧ (o4 σ (nrJ n s nr) (nrJ n (c + 1) nn) i j ↔ o4 σ nr nn i j) := by
          intro j hj
          unfold ed o4 nrJ
          rw [if_neg q, if_neg q, if_neg (by omega), if_neg (by omega)]
          exact ⟨rfl, Iff.rfl⟩
        have dd : ∀ j, dnJ n 0 i j ↔ dnA n i j := by intro j; unfold dnJ dnA; omega
        have dl : ∀ j, dnA n i j → j < n := fun j q => q.2.1
        refine ⟨?_, ?_, fun j hj => ?_, fun j hj => ?_, fun j hj => ?_⟩
        · rw [up_n (by omega), up_n (by omega), up_n (by omega), up_n (by omega), up_n (by omega), w1]; simp [nrJ, q]
        · rw [up_n (by omega), up_n (by omega), up_n (by omega), up_n (by omega), up_n (by omega), w2]; simp [nrJ, q]
        · rw [up_n (by omega), up_n (by omega), up_n (by omega), up_n (by omega), up_n (by omega), w3 j hj, dd]
          exact ⟨fun z => ⟨z.1, by rw [(ee j (dl j z.1)).1]; exact z.2⟩, fun z => ⟨z.1, by rw [← (ee j (dl j z.1)).1]; exact z.2⟩⟩
        · rw [up_n (by omega), up_n (by omega), up_n (by omega), up_n (by omega), up_n (by omega), w4 j hj, dd]
          exact ⟨fun z => ⟨z.1, (ee j (dl j z.1)).2.mpr z.2⟩, fun z => ⟨z.1, (ee j (dl j z.1)).2.mp z.2⟩⟩
        · have hj' := (dd j).mp hj
          rw [up_n (by omega), up_n (by omega), up_n (by omega), up_n (by omega), up_n (by omega), w5 j hj', (ee j (dl j hj')).1]
  case _ =>
    rw [hn0] at z
    exact absurd (Int32.not_le.mp (nI_ge (by omega) (by omega))) z
