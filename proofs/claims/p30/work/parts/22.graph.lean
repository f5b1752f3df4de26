/-! ===== the Graph: its view, link, load, join ===== -/
def hpg (h : sn_H) (g : Nat) (γ : sn_V) : sn_H := (h.1, h.2.1, h.2.2.1, fun p k => if g ≤ p ∧ p ≤ g + 8 then γ (p - g) k else h.2.2.2 p k)
def grLen (j : Nat) : Nat := (sn_nth [17, 17, 289, 17, 17, 17, 17, 17] j).getD 0
def GrS (h : sn_H) (g : Nat) : Prop := hK h g = (0, 3, 10) ∧ ∀ j, j < 8 → hR h g (1 + j) = some (g + (1 + j)) ∧ hK h (g + (1 + j)) = (1, 0, grLen j)
def GrA (h : sn_H) (g : Nat) (γ : sn_V) : Prop := GrS h g ∧ ∀ j, j ≤ 8 → ∀ k, hG h (g + j) k = γ j k
theorem hpg_A {h : sn_H} {g : Nat} {γ : sn_V} (S : GrS h g) : GrA (hpg h g γ) g γ := ⟨S, fun j hj k => by
  show (if g ≤ g + j ∧ g + j ≤ g + 8 then γ (g + j - g) k else _) = _
  rw [if_pos (by omega), Nat.add_sub_cancel_left]⟩
theorem hpg_o {h : sn_H} {g p k : Nat} {γ : sn_V} (hp : ¬ (g ≤ p ∧ p ≤ g + 8)) : hG (hpg h g γ) p k = hG h p k := if_neg hp
theorem hpg_St {h : sn_H} {g b : Nat} {γ σ : sn_V} (A : StA h b σ) (hb : b + 10 < g ∨ g + 8 < b) : StA (hpg h g γ) b σ := ⟨A.1, fun j hj k => by rw [hpg_o (by omega)]; exact A.2 j hj k⟩
theorem hpg_hpg {h : sn_H} {g : Nat} {γ γ' : sn_V} : hpg (hpg h g γ) g γ' = hpg h g γ' := by
  unfold hpg
  simp only [Prod.mk.injEq, true_and]
  funext p k
  by_cases hp : g ≤ p ∧ p ≤ g + 8 <;> simp [hp]
theorem GrA.put {h : sn_H} {g : Nat} {γ : sn_V} (A : GrA h g γ) : h = hpg h g γ := by
  obtain ⟨n, kd, rf, gg⟩ := h
  unfold hpg
  simp only [Prod.mk.injEq, true_and]
  funext p k
  by_cases hp : g ≤ p ∧ p ≤ g + 8
  · rw [if_pos hp]
    have := A.2 (p - g) (by omega) k
    rw [show g + (p - g) = p by omega] at this
    exact this
  · rw [if_neg hp]
theorem hpg_get {h : sn_H} {g j k : Nat} {γ : sn_V} (hj : j ≤ 8) : hG (hpg h g γ) (g + j) k = γ j k := by
  show (if g ≤ g + j ∧ g + j ≤ g + 8 then γ (g + j - g) k else _) = _
  rw [if_pos (by omega), Nat.add_sub_cancel_left]
theorem hpg_get0 {h : sn_H} {g k : Nat} {γ : sn_V} : hG (hpg h g γ) g k = γ 0 k := hpg_get (j := 0) (by omega)
theorem hpg_set {h : sn_H} {g j k : Nat} {γ : sn_V} {v : Int32} (hj : j ≤ 8) : setG (hpg h g γ) (g + j) k v = hpg h g (up γ j k v) := by
  unfold hpg setG up
  simp only [Prod.mk.injEq, true_and]
  funext p i
  by_cases hp : g ≤ p ∧ p ≤ g + 8
  · simp only [hp, and_self, if_true]
    by_cases hq : p = g + j
    · subst hq; simp
    · rw [if_neg (fun z => hq z.1), if_neg (fun z => hq (by omega))]
  · rw [if_neg (fun z => hp (by omega)), if_neg hp, if_neg hp]
theorem hpg_set0 {h : sn_H} {g k : Nat} {γ : sn_V} {v : Int32} : setG (hpg h g γ) g k v = hpg h g (up γ 0 k v) := hpg_set (j := 0) (by omega)
theorem GrS.f1 {h : sn_H} {g : Nat} (S : GrS h g) : hR h g 1 = some (g + 1) ∧ hK h (g + 1) = (1, 0, 17) := S.2 0 (by decide)
theorem GrS.f2 {h : sn_H} {g : Nat} (S : GrS h g) : hR h g 2 = some (g + 2) ∧ hK h (g + 2) = (1, 0, 17) := S.2 1 (by decide)
theorem GrS.f3 {h : sn_H} {g : Nat} (S : GrS h g) : hR h g 3 = some (g + 3) ∧ hK h (g + 3) = (1, 0, 289) := S.2 2 (by decide)
theorem GrS.f4 {h : sn_H} {g : Nat} (S : GrS h g) : hR h g 4 = some (g + 4) ∧ hK h (g + 4) = (1, 0, 17) := S.2 3 (by decide)
theorem GrS.f5 {h : sn_H} {g : Nat} (S : GrS h g) : hR h g 5 = some (g + 5) ∧ hK h (g + 5) = (1, 0, 17) := S.2 4 (by decide)
theorem GrS.f6 {h : sn_H} {g : Nat} (S : GrS h g) : hR h g 6 = some (g + 6) ∧ hK h (g + 6) = (1, 0, 17) := S.2 5 (by decide)
theorem GrS.f7 {h : sn_H} {g : Nat} (S : GrS h g) : hR h g 7 = some (g + 7) ∧ hK h (g + 7) = (1, 0, 17) := S.2 6 (by decide)
theorem GrS.f8 {h : sn_H} {g : Nat} (S : GrS h g) : hR h g 8 = some (g + 8) ∧ hK h (g + 8) = (1, 0, 17) := S.2 7 (by decide)
theorem up_s {γ : sn_V} {j k : Nat} {v : Int32} : up γ j k v j k = v := by simp [up]
theorem up_n {γ : sn_V} {j k j' k' : Nat} {v : Int32} (h : ¬ (j' = j ∧ k' = k)) : up γ j k v j' k' = γ j' k' := if_neg h
/-- a dependency between nodes, told by rows and numbers -/
def ed (σ : sn_V) (nr nn : Nat → Nat) (i j : Nat) : Int32 := dS σ (nr i) (nI (nn i)) (nr j) (nI (nn j))
def o4 (σ : sn_V) (nr nn : Nat → Nat) (i j : Nat) : Prop := dB3 σ (nr i) (nr j) (nI (nn j)) 12 = true
theorem dV_0 (x y z : Bool) : dV x y z &&& nI 4 = 0 ↔ z = false := by cases x <;> cases y <;> cases z <;> decide
theorem ed_4 {σ : sn_V} {nr nn : Nat → Nat} {i j : Nat} : (ed σ nr nn i j &&& nI 4 = 0) ↔ ¬ o4 σ nr nn i j := by
  unfold ed dS o4
  rw [dV_0, Bool.not_eq_true]
/-- what the graph knows: n nodes, and the dependencies of the pairs that are done -/
def GG (γ σ : sn_V) (n : Nat) (nr nn : Nat → Nat) (dn : Nat → Nat → Prop) : Prop :=
  γ 0 0 = nI n ∧ ∀ i, i < n → γ 1 i = nI (nr i) ∧ γ 2 i = nI (nn i) ∧ (∀ j, j < 32 → (bitP (γ 4 i) j ↔ dn i j ∧ ¬ ed σ nr nn i j = 0)) ∧ (∀ j, j < 32 → (bitP (γ 5 i) j ↔ dn i j ∧ o4 σ nr nn i j)) ∧ ∀ j, dn i j → γ 3 (i * 17 + j) = ed σ nr nn i j
theorem GG.mono {γ σ : sn_V} {n : Nat} {nr nn : Nat → Nat} {dn dn' : Nat → Nat → Prop} (G : GG γ σ n nr nn dn) (e : ∀ i j, i < n → (dn i j ↔ dn' i j)) : GG γ σ n nr nn dn' :=
  ⟨G.1, fun i hi => ⟨(G.2 i hi).1, (G.2 i hi).2.1, fun j hj => by rw [← e i j hi]; exact (G.2 i hi).2.2.1 j hj, fun j hj => by rw [← e i j hi]; exact (G.2 i hi).2.2.2.1 j hj, fun j hj => (G.2 i hi).2.2.2.2 j ((e i j hi).mpr hj)⟩⟩
theorem s_G_link {h : sn_H} {g b n a d : Nat} {γ σ : sn_V} {nr nn : Nat → Nat} {dn : Nat → Nat → Prop} {Q : Option Value → sn_H → Prop} (S : GrS h g) (A : StA h b σ) (hb : b + 10 < g ∨ g + 8 < b) (hn : n ≤ 17) (hnr : ∀ i, i < n → nr i < 24) (hdn : ∀ i j, dn i j → j < n) (G : GG γ σ n nr nn dn) (ha : a < n) (hd : d < n)
    (H : ∀ γ', GG γ' σ n nr nn (fun i j => dn i j ∨ (i = a ∧ j = d)) → Q none (hpg h g γ')) : wpE 33 0 [some (.ref g), some (.ref b), some (.int (nI a)), some (.int (nI d)), none] [] (hpg h g γ) (0, 0) Q := by
  have ca : (nI a).toNatClampNeg = a := cl (by omega)
  have cd : (nI d).toNatClampNeg = d := cl (by omega)
  have cad : (nI (a * 17 + d)).toNatClampNeg = a * 17 + d := cl (by omega)
  have ix : nI a * nI 17 + nI d = nI (a * 17 + d) := by rw [pk_mul, nI_add]
  have A2 : StA (hpg h g γ) b σ := hpg_St A hb
  obtain ⟨g1, g2, g3, g4, g5⟩ := G.2 a ha
  obtain ⟨d1, d2, -, -, -⟩ := G.2 d hd
  refine r_G_link_0 S.1 S.f1.1 S.f1.2 S.f2.1 S.f2.2 A.1.1 (inb (by omega)) (inb (by omega)) (inb (by omega)) (inb (by omega)) ?_
  rw [ca, cd, hpg_get (by decide), hpg_get (by decide), hpg_get (by decide), hpg_get (by decide), g1, g2, d1, d2]
  refine s_S_dependencySum A2 (hnr a ha) (hnr d hd) ?_
  show wpE 33 28 [some (.ref g), none, some (.int (nI a)), some (.int (nI d)), none] [.int (ed σ nr nn a d)] (hpg h g γ) (0, 0) Q
  generalize hs : ed σ nr nn a d = s0
  -- what the end must show
  have fin : ∀ γ', (∀ j k, ¬ (j = 3 ∨ j = 4 ∨ j = 5) → γ' j k = γ j k) → (∀ k, k ≠ a → γ' 4 k = γ 4 k ∧ γ' 5 k = γ 5 k) → (∀ k, k ≠ a * 17 + d → γ' 3 k = γ 3 k) → γ' 3 (a * 17 + d) = s0 →
      γ' 4 a = (if s0 = 0 then γ 4 a else γ 4 a ||| (nI 1 <<< (nI d &&& 31))) → γ' 5 a = (if (s0 &&& nI 4) = 0 then γ 5 a else γ 5 a ||| (nI 1 <<< (nI d &&& 31))) → Q none (hpg h g γ') := by
    intro γ' f0 f1 f3 f3' f4 f5
    refine H γ' ⟨by rw [f0 0 0 (by omega)]; exact G.1, fun i hi => ?_⟩
    obtain ⟨w1, w2, w3, w4, w5⟩ := G.2 i hi
    refine ⟨by rw [f0 1 i (by omega)]; exact w1, by rw [f0 2 i (by omega)]; exact w2, fun j hj => ?_, fun j hj => ?_, fun j hj => ?_⟩
    · by_cases hia : i = a
      · subst hia
        rw [f4]
        by_cases z : s0 = 0
        · rw [if_pos z, w3 j hj]
          constructor
          · exact fun q => ⟨Or.inl q.1, q.2⟩
          · rintro ⟨q | ⟨-, q⟩, q2⟩
            · exact ⟨q, q2⟩
            · rw [q, hs] at q2; exact absurd z q2
        · rw [if_neg z, bitP_put (by omega) (by omega), w3 j hj]
          constructor
          · rintro (q | q)
            · exact ⟨Or.inl q.1, q.2⟩
            · exact ⟨Or.inr ⟨rfl, q⟩, by rw [q, hs]; exact z⟩
          · rintro ⟨q | ⟨-, q⟩, q2⟩
            · exact Or.inl ⟨q, q2⟩
            · exact Or.inr q
      · rw [(f1 i hia).1, w3 j hj]
        simp [hia]
    · have h4 : (s0 &&& nI 4 = 0) ↔ ¬ o4 σ nr nn a d := by rw [← hs]; exact ed_4
      by_cases hia : i = a
      · subst hia
        rw [f5]
        by_cases z : s0 &&& nI 4 = 0
        · rw [if_pos z, w4 j hj]
          constructor
          · exact fun q => ⟨Or.inl q.1, q.2⟩
          · rintro ⟨q | ⟨-, q⟩, q2⟩
            · exact ⟨q, q2⟩
            · rw [q] at q2; exact absurd q2 (h4.mp z)
        · rw [if_neg z, bitP_put (by omega) (by omega), w4 j hj]
          constructor
          · rintro (q | q)
            · exact ⟨Or.inl q.1, q.2⟩
            · exact ⟨Or.inr ⟨rfl, q⟩, by rw [q]; exact Classical.not_not.mp (fun y => z (h4.mpr y))⟩
          · rintro ⟨q | ⟨-, q⟩, q2⟩
            · exact Or.inl ⟨q, q2⟩
            · exact Or.inr q
      · rw [(f1 i hia).2, w4 j hj]
        simp [hia]
    · rcases hj with q | ⟨q1, q2⟩
      · by_cases e : i * 17 + j = a * 17 + d
        · have hj1 := hdn i j q
          have hia : i = a := by omega
          have hjd : j = d := by omega
          rw [e, f3', ← hs, hia, hjd]
        · rw [f3 _ e]; exact w5 j q
      · rw [q1, q2, f3', ← hs]
  have step60 : ∀ γ1, (∀ j k, ¬ (j = 3 ∨ j = 4) → γ1 j k = γ j k) → (∀ k, k ≠ a → γ1 4 k = γ 4 k) → (∀ k, k ≠ a * 17 + d → γ1 3 k = γ 3 k) → γ1 3 (a * 17 + d) = s0 → γ1 4 a = (if s0 = 0 then γ 4 a else γ 4 a ||| (nI 1 <<< (nI d &&& 31))) →
      wpE 33 60 [some (.ref g), none, some (.int (nI a)), some (.int (nI d)), some (.int s0)] [] (hpg h g γ1) (0, 0) Q := by
    intro γ1 f0 f1 f3 f3' f4
    refine r_G_link_60 S.1 S.f5.1 S.f5.2 (fun z => ?_) (fun _ => inb (by omega)) (fun z => ?_)
    · exact fin γ1 (fun j k hj => f0 j k (by omega)) (fun k hk => ⟨f1 k hk, f0 5 k (by omega)⟩) f3 f3' f4 (by rw [if_pos z]; exact f0 5 a (by omega))
    · rw [ca, hpg_get (by decide), hpg_set (by decide)]
      refine fin _ (fun j k hj => ?_) (fun k hk => ⟨?_, ?_⟩) (fun k hk => ?_) ?_ ?_ ?_
      · rw [up_n (by omega)]; exact f0 j k (by omega)
      · rw [up_n (by omega)]; exact f1 k hk
      · rw [up_n (by omega)]; exact f0 5 k (by omega)
      · rw [up_n (by omega)]; exact f3 k hk
      · rw [up_n (by omega)]; exact f3'
      · rw [up_n (by omega)]; exact f4
      · rw [up_s, if_neg z, f0 5 a (by omega)]
  refine r_G_link_28 S.1 S.f3.1 S.f3.2 S.f4.1 S.f4.2 (by rw [ix]; exact inb (by omega)) (fun z => ?_) (fun _ => inb (by omega)) (fun z => ?_)
  · rw [ix, cad, hpg_set (by decide)]
    refine step60 _ (fun j k hj => up_n (by omega)) (fun k hk => up_n (by omega)) (fun k hk => up_n (by omega)) up_s ?_
    rw [up_n (by omega), if_pos z]
  · rw [ix, cad, ca, hpg_set (by decide), hpg_get (by decide), hpg_set (by decide)]
    refine step60 _ (fun j k hj => ?_) (fun k hk => ?_) (fun k hk => ?_) ?_ ?_
    · rw [up_n (by omega), up_n (by omega)]
    · rw [up_n (by omega), up_n (by omega)]
    · rw [up_n (by omega), up_n (by omega)]
    · rw [up_n (by omega), up_s]
    · rw [up_s, if_neg z, up_n (by omega)]
