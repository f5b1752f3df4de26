/-! ===== the History ===== -/
def frm (lo hi : Nat) (h h' : sn_H) : Prop := h'.1 = h.1 ∧ h'.2.1 = h.2.1 ∧ h'.2.2.1 = h.2.2.1 ∧ ∀ q k, ¬ (lo ≤ q ∧ q ≤ hi) → hG h' q k = hG h q k
theorem frm.K {lo hi : Nat} {h h' : sn_H} (f : frm lo hi h h') (p : Nat) : hK h' p = hK h p := by unfold hK; rw [f.2.1]
theorem frm.R {lo hi : Nat} {h h' : sn_H} (f : frm lo hi h h') (p k : Nat) : hR h' p k = hR h p k := by unfold hR; rw [f.2.2.1]
theorem frm.S {lo hi : Nat} {h h' : sn_H} (f : frm lo hi h h') {b : Nat} (S : StS h b) : StS h' b := ⟨(f.K b).trans S.1, fun j hj => ⟨(f.R _ _).trans (S.2 j hj).1, (f.K _).trans (S.2 j hj).2⟩⟩
theorem frm.A {lo hi : Nat} {h h' : sn_H} (f : frm lo hi h h') {b : Nat} {σ : sn_V} (A : StA h b σ) (hb : b + 10 < lo ∨ hi < b) : StA h' b σ := ⟨f.S A.1, fun j hj k => (f.2.2.2 _ _ (by omega)).trans (A.2 j hj k)⟩
theorem frm.rfl' {lo hi : Nat} {h : sn_H} : frm lo hi h h := ⟨rfl, rfl, rfl, fun _ _ _ => rfl⟩
theorem frm.tr {lo hi : Nat} {h h' h2 : sn_H} (f : frm lo hi h h') (f2 : frm lo hi h' h2) : frm lo hi h h2 := ⟨f2.1.trans f.1, f2.2.1.trans f.2.1, f2.2.2.1.trans f.2.2.1, fun q k hq => (f2.2.2.2 q k hq).trans (f.2.2.2 q k hq)⟩
theorem frm.wi {lo hi lo' hi' : Nat} {h h' : sn_H} (f : frm lo hi h h') (h1 : lo' ≤ lo) (h2 : hi ≤ hi') : frm lo' hi' h h' := ⟨f.1, f.2.1, f.2.2.1, fun q k hq => f.2.2.2 q k (by omega)⟩
theorem frm_put {h : sn_H} {b : Nat} {σ : sn_V} : frm b (b + 10) h (hput h b σ) := ⟨rfl, rfl, rfl, fun _ _ hq => if_neg hq⟩
theorem frm_set {h : sn_H} {p k : Nat} {v : Int32} : frm p p h (setG h p k v) := ⟨rfl, rfl, rfl, fun _ _ hq => if_neg (fun z => hq (by omega))⟩
theorem setG_s {h : sn_H} {p k : Nat} {v : Int32} : hG (setG h p k v) p k = v := if_pos ⟨rfl, rfl⟩
theorem setG_n {h : sn_H} {p k p' k' : Nat} {v : Int32} (e : ¬ (p' = p ∧ k' = k)) : hG (setG h p k v) p' k' = hG h p' k' := if_neg e
def hiP (p i : Nat) : Nat := p + 2 + 11 * i
def HiS (h : sn_H) (p : Nat) : Prop := hK h p = (0, 2, 3) ∧ hR h p 0 = some (p + 1) ∧ hK h (p + 1) = (4, 1, 6) ∧ ∀ i, i < 6 → hR h (p + 1) i = some (hiP p i) ∧ StS h (hiP p i)
theorem HiS.fr {h h' : sn_H} {p lo hi : Nat} (S : HiS h p) (f : frm lo hi h h') : HiS h' p := ⟨(f.K _).trans S.1, (f.R _ _).trans S.2.1, (f.K _).trans S.2.2.1, fun i hi => ⟨(f.R _ _).trans (S.2.2.2 i hi).1, f.S (S.2.2.2 i hi).2⟩⟩
/-- the history: s states are kept, the next goes to x; st k the k-th oldest -/
def HiA (h : sn_H) (p s x : Nat) (st : Nat → sn_V) : Prop := HiS h p ∧ (hG h p 1 = nI s ∧ hG h p 2 = nI x ∧ s ≤ 6 ∧ x < 6) ∧ (∀ k, k < s → StA h (hiP p ((x + 6 - s + k) % 6)) (st k) ∧ StZ (st k)) ∧ ∀ i, i < 6 → ∃ τ, StA h (hiP p i) τ ∧ StZ τ
theorem HiA.fr {h h' : sn_H} {p s x lo hi : Nat} {st : Nat → sn_V} (A : HiA h p s x st) (f : frm lo hi h h') (hb : p + 67 < lo ∨ hi < p) : HiA h' p s x st := by
  obtain ⟨S, ⟨a1, a2, a3, a4⟩, a5, a6⟩ := A
  refine ⟨S.fr f, ⟨(f.2.2.2 _ _ (by omega)).trans a1, (f.2.2.2 _ _ (by omega)).trans a2, a3, a4⟩, fun k hk => ⟨f.A (a5 k hk).1 ?_, (a5 k hk).2⟩, fun i hi => ?_⟩
  · unfold hiP; omega
  · obtain ⟨τ, t1, t2⟩ := a6 i hi
    exact ⟨τ, f.A t1 (by unfold hiP; omega), t2⟩
def hPush (s : Nat) (st : Nat → sn_V) (σ : sn_V) (k : Nat) : sn_V := if s < 6 then (if k = s then σ else st k) else (if k = 5 then σ else st (k + 1))
theorem hi_x : ∀ x, x < 6 → (nI x + nI 1) - (nI x + nI 1) / nI 6 * nI 6 = nI ((x + 1) % 6) := by decide +kernel
theorem hi_y : ∀ x, x < 6 → ((nI x + nI 6) - nI 1) - ((nI x + nI 6) - nI 1) / nI 6 * nI 6 = nI ((x + 5) % 6) := by decide +kernel
theorem hi_s : ∀ s, s ≤ 6 → (if nI 6 < nI s + nI 1 then nI 6 else nI s + nI 1) = nI (min 6 (s + 1)) := by decide +kernel
theorem s_H_push {h : sn_H} {p b s x : Nat} {st : Nat → sn_V} {σ : sn_V} {Q : Option Value → sn_H → Prop} (I : HiA h p s x st) (A : StA h b σ) (Z : StZ σ) (hb : b + 10 < p ∨ p + 67 < b)
    (H : ∀ h', frm p (p + 67) h h' → HiA h' p (min 6 (s + 1)) ((x + 1) % 6) (hPush s st σ) → Q none h') : wpE 6 0 [some (.ref p), some (.ref b)] [] h (0, 0) Q := by
  obtain ⟨S, ⟨a1, a2, a3, a4⟩, a5, a6⟩ := I
  obtain ⟨τ, t1, t2⟩ := a6 x a4
  have cx : (nI x).toNatClampNeg = x := cl (by omega)
  have px : hiP p x = p + 2 + 11 * x := rfl
  refine r_H_push_0 (q1 := p + 1) (q2 := hiP p x) (n1 := 6) S.1 S.2.1 S.2.2.1 (by rw [a2, cx]; exact (S.2.2.2 x a4).1) (S.2.2.2 x a4).2.1 (by rw [a2]; exact inb a4) ?_
  refine s_S_copyFrom t1 A (by omega) t2 Z ?_
  show wpE 6 13 [some (.ref p), none] [] (hput h (hiP p x) σ) (0, 0) Q
  have f1 : frm p (p + 67) h (hput h (hiP p x) σ) := frm_put.wi (by omega) (by omega)
  have g1 : hG (hput h (hiP p x) σ) p 1 = nI s := by rw [hput_o (by omega)]; exact a1
  have g2 : hG (hput h (hiP p x) σ) p 2 = nI x := by rw [hput_o (by omega)]; exact a2
  refine r_H_push_13 S.1 ?_
  rw [g2, hi_x x a4, setG_n (by omega), g1, hi_s s a3]
  have f2 : frm p (p + 67) h (setG (setG (hput h (hiP p x) σ) p 2 (nI ((x + 1) % 6))) p 1 (nI (min 6 (s + 1)))) := f1.tr ((frm_set.tr frm_set).wi (by omega) (by omega))
  have keep : ∀ {i : Nat} {τ' : sn_V}, i < 6 → StA (hput h (hiP p x) σ) (hiP p i) τ' → StA (setG (setG (hput h (hiP p x) σ) p 2 (nI ((x + 1) % 6))) p 1 (nI (min 6 (s + 1)))) (hiP p i) τ' := fun {i} {τ'} hi B =>
    (frm.tr (frm_set (h := hput h (hiP p x) σ) (p := p) (k := 2)) frm_set).A B (Or.inr (by unfold hiP; omega))
  have new : StA (hput h (hiP p x) σ) (hiP p x) σ := hput_A t1.1
  have old : ∀ {i : Nat} {τ' : sn_V}, i < 6 → i ≠ x → StA h (hiP p i) τ' → StA (hput h (hiP p x) σ) (hiP p i) τ' := fun {i} {τ'} hi hx B => hput_A' B (by unfold hiP; omega)
  refine H _ f2 ⟨S.fr f2, ⟨setG_s, by rw [setG_n (by omega)]; exact setG_s, by omega, by omega⟩, fun k hk => ?_, fun i hi => ?_⟩
  · by_cases s6 : s < 6
    · rw [show ((x + 1) % 6 + 6 - min 6 (s + 1) + k) % 6 = (x + 6 - s + k) % 6 by omega]
      unfold hPush
      rw [if_pos s6]
      by_cases ks : k = s
      · rw [if_pos ks, show (x + 6 - s + k) % 6 = x by omega]
        exact ⟨keep a4 new, Z⟩
      · rw [if_neg ks]
        obtain ⟨w1, w2⟩ := a5 k (by omega)
        exact ⟨keep (by omega) (old (by omega) (by omega) w1), w2⟩
    · unfold hPush
      rw [if_neg s6]
      by_cases ks : k = 5
      · rw [if_pos ks, show ((x + 1) % 6 + 6 - min 6 (s + 1) + k) % 6 = x by omega]
        exact ⟨keep a4 new, Z⟩
      · rw [if_neg ks, show ((x + 1) % 6 + 6 - min 6 (s + 1) + k) % 6 = (x + 6 - s + (k + 1)) % 6 by omega]
        obtain ⟨w1, w2⟩ := a5 (k + 1) (by omega)
        exact ⟨keep (by omega) (old (by omega) (by omega) w1), w2⟩
  · by_cases hx : i = x
    · rw [hx]; exact ⟨σ, keep a4 new, Z⟩
    · obtain ⟨τ', w1, w2⟩ := a6 i hi
      exact ⟨τ', keep hi (old hi hx w1), w2⟩

