/-! ===== the world of class and Model: places, invariant ===== -/
def XS (h : sn_H) : Prop := hK h 1 = (0, 0, 5) ∧ hR h 1 0 = some 2 ∧ hR h 1 1 = some 13 ∧ hR h 1 2 = some 24 ∧ hR h 1 3 = some 92 ∧ hR h 1 4 = some 101
def ScA (h : sn_H) (n : Nat) (tx : Nat → Nat) : Prop := hK h 101 = (0, 4, 2) ∧ hR h 101 0 = some 102 ∧ hK h 102 = (2, 0, 80) ∧ hG h 101 1 = nI n ∧ ∀ i, i < n → hG h 102 i = nI (tx i)
def CI (h : sn_H) (σ : sn_V) (s : Nat) (st : Nat → sn_V) (n : Nat) (tx : Nat → Nat) : Prop := XS h ∧ (StA h 2 σ ∧ StZ σ) ∧ (∃ φ, StA h 13 φ ∧ StZ φ) ∧ (∃ x, HiA h 24 s x st) ∧ GrS h 92 ∧ ScA h n tx
def RI (B c : Nat) (σ : sn_V) (s : Nat) (st : Nat → sn_V) (n : Nat) (tx : Nat → Nat) (μ : sn_V) : Prop :=
  (Rel c σ (μ 1) ∧ c ≤ B) ∧ (s ≤ 6 ∧ μ 0 3 = nI s) ∧ (∀ k, k < s → ∃ c', c' ≤ B ∧ Rel c' (st k) (fun j => μ 3 (596 * k + j))) ∧ (n ≤ 80 ∧ μ 0 5 = nI n) ∧ ∀ i, i < n → μ 4 i = nI (tx i) ∧ 33 ≤ tx i ∧ tx i ≤ 126
def LaS (h : sn_H) (L : Nat) (scr : Nat → Int32) : Prop := hK h 0 = (1, 1, L) ∧ ∀ k, hG h 0 k = scr k
def Inv (B L : Nat) (scr : Nat → Int32) (h : sn_H) : Prop := LaS h L scr ∧ ∃ c σ s st n tx μ, CI h σ s st n tx ∧ MoA h 103 μ ∧ RI B c σ s st n tx μ
def Two (L : Nat) (scr : Nat → Int32) (B X M : Nat) (eX eM : sn_L) (h : sn_H) : Prop :=
  ∀ Q : Option Value → sn_H → Prop, (∀ (r : Value) (h1 : sn_H), (∀ Q2 : Option Value → sn_H → Prop, (∀ h2, Inv (B + 80) L scr h2 → Q2 (some r) h2) → wpE M 0 eM [] h1 (0, 0) Q2) → Q (some r) h1) → wpE X 0 eX [] h (0, 0) Q
theorem frm.XS' {lo hi : Nat} {h h' : sn_H} (f : frm lo hi h h') (X : XS h) : XS h' := ⟨(f.K _).trans X.1, (f.R _ _).trans X.2.1, (f.R _ _).trans X.2.2.1, (f.R _ _).trans X.2.2.2.1, (f.R _ _).trans X.2.2.2.2.1, (f.R _ _).trans X.2.2.2.2.2⟩
theorem frm.Gr {lo hi : Nat} {h h' : sn_H} (f : frm lo hi h h') {g : Nat} (S : GrS h g) : GrS h' g := ⟨(f.K _).trans S.1, fun j hj => ⟨(f.R _ _).trans (S.2 j hj).1, (f.K _).trans (S.2 j hj).2⟩⟩
theorem frm.Sc {lo hi : Nat} {h h' : sn_H} (f : frm lo hi h h') {n : Nat} {tx : Nat → Nat} (S : ScA h n tx) (hb : hi < 101 ∨ 102 < lo) : ScA h' n tx :=
  ⟨(f.K _).trans S.1, (f.R _ _).trans S.2.1, (f.K _).trans S.2.2.1, (f.2.2.2 _ _ (by omega)).trans S.2.2.2.1, fun i hi => (f.2.2.2 _ _ (by omega)).trans (S.2.2.2.2 i hi)⟩
theorem frm.Mo {lo hi : Nat} {h h' : sn_H} (f : frm lo hi h h') {μ : sn_V} (A : MoA h 103 μ) (hb : hi < 103) : MoA h' 103 μ :=
  ⟨⟨(f.K _).trans A.1.1, fun j hj => ⟨(f.R _ _).trans (A.1.2 j hj).1, (f.K _).trans (A.1.2 j hj).2⟩⟩, fun j hj k => (f.2.2.2 _ _ (by omega)).trans (A.2 j hj k)⟩
theorem frm.La {lo hi : Nat} {h h' : sn_H} (f : frm lo hi h h') {L : Nat} {scr : Nat → Int32} (A : LaS h L scr) (hb : 0 < lo) : LaS h' L scr := ⟨(f.K _).trans A.1, fun k => (f.2.2.2 _ _ (by omega)).trans (A.2 k)⟩
theorem CI.by {lo hi : Nat} {h h' : sn_H} {σ σ' : sn_V} {s s' : Nat} {st st' : Nat → sn_V} {n n' : Nat} {tx tx' : Nat → Nat} (I : CI h σ s st n tx) (f : frm lo hi h h') (hS : StA h' 2 σ' ∧ StZ σ') (hF : ∃ φ, StA h' 13 φ ∧ StZ φ) (hH : ∃ x, HiA h' 24 s' x st') (hT : ScA h' n' tx') : CI h' σ' s' st' n' tx' :=
  ⟨f.XS' I.1, hS, hF, hH, f.Gr I.2.2.2.2.1, hT⟩
theorem CI.X {h : sn_H} {σ : sn_V} {s : Nat} {st : Nat → sn_V} {n : Nat} {tx : Nat → Nat} (I : CI h σ s st n tx) : XS h := I.1
theorem CI.A {h : sn_H} {σ : sn_V} {s : Nat} {st : Nat → sn_V} {n : Nat} {tx : Nat → Nat} (I : CI h σ s st n tx) : StA h 2 σ := I.2.1.1
theorem CI.Z {h : sn_H} {σ : sn_V} {s : Nat} {st : Nat → sn_V} {n : Nat} {tx : Nat → Nat} (I : CI h σ s st n tx) : StZ σ := I.2.1.2
theorem CI.G {h : sn_H} {σ : sn_V} {s : Nat} {st : Nat → sn_V} {n : Nat} {tx : Nat → Nat} (I : CI h σ s st n tx) : GrS h 92 := I.2.2.2.2.1
theorem CI.T {h : sn_H} {σ : sn_V} {s : Nat} {st : Nat → sn_V} {n : Nat} {tx : Nat → Nat} (I : CI h σ s st n tx) : ScA h n tx := I.2.2.2.2.2
theorem CI.H {h : sn_H} {σ : sn_V} {s : Nat} {st : Nat → sn_V} {n : Nat} {tx : Nat → Nat} (I : CI h σ s st n tx) : ∃ x, HiA h 24 s x st := I.2.2.2.1
theorem CI.F {h : sn_H} {σ : sn_V} {s : Nat} {st : Nat → sn_V} {n : Nat} {tx : Nat → Nat} (I : CI h σ s st n tx) : ∃ φ, StA h 13 φ ∧ StZ φ := I.2.2.1
theorem CI.kH {h : sn_H} {σ : sn_V} {s : Nat} {st : Nat → sn_V} {n : Nat} {tx : Nat → Nat} (I : CI h σ s st n tx) : hK h 24 = (0, 2, 3) := by
  obtain ⟨x, hx⟩ := I.H
  exact hx.1.1
theorem CI.g0 {h : sn_H} {σ : sn_V} {s : Nat} {st : Nat → sn_V} {n : Nat} {tx : Nat → Nat} (I : CI h σ s st n tx) (k : Nat) : hG h 2 k = σ 0 k := I.A.2 0 (by decide) k
/-- outside of the class's places -/
theorem CI.out {lo hi : Nat} {h h' : sn_H} {σ : sn_V} {s : Nat} {st : Nat → sn_V} {n : Nat} {tx : Nat → Nat} (I : CI h σ s st n tx) (f : frm lo hi h h') (hb : 102 < lo) : CI h' σ s st n tx := by
  obtain ⟨φ, p1, p2⟩ := I.F
  obtain ⟨x, q⟩ := I.H
  exact I.by f ⟨f.A I.A (by omega), I.Z⟩ ⟨φ, f.A p1 (by omega), p2⟩ ⟨x, q.fr f (by omega)⟩ (f.Sc I.T (by omega))
theorem CI.put {h : sn_H} {σ σ' : sn_V} {s : Nat} {st : Nat → sn_V} {n : Nat} {tx : Nat → Nat} (I : CI h σ s st n tx) (Z : StZ σ') : CI (hput h 2 σ') σ' s st n tx ∧ frm 1 102 h (hput h 2 σ') := by
  obtain ⟨φ, p1, p2⟩ := I.F
  obtain ⟨x, q⟩ := I.H
  have f : frm 2 12 h (hput h 2 σ') := frm_put
  exact ⟨I.by f ⟨hput_A I.A.1, Z⟩ ⟨φ, f.A p1 (by omega), p2⟩ ⟨x, q.fr f (by omega)⟩ (f.Sc I.T (by omega)), f.wi (by omega) (by omega)⟩
theorem CI.fo {h : sn_H} {σ φ' : sn_V} {s : Nat} {st : Nat → sn_V} {n : Nat} {tx : Nat → Nat} (I : CI h σ s st n tx) (Z : StZ φ') : CI (hput h 13 φ') σ s st n tx ∧ frm 1 102 h (hput h 13 φ') := by
  obtain ⟨φ, p1, p2⟩ := I.F
  obtain ⟨x, q⟩ := I.H
  have f : frm 13 23 h (hput h 13 φ') := frm_put
  exact ⟨I.by f ⟨f.A I.A (by omega), I.Z⟩ ⟨φ', hput_A p1.1, Z⟩ ⟨x, q.fr f (by omega)⟩ (f.Sc I.T (by omega)), f.wi (by omega) (by omega)⟩
theorem frm_pg {h : sn_H} {g : Nat} {γ : sn_V} : frm g (g + 8) h (hpg h g γ) := ⟨rfl, rfl, rfl, fun _ _ hq => if_neg hq⟩
theorem CI.gr {h : sn_H} {σ γ : sn_V} {s : Nat} {st : Nat → sn_V} {n : Nat} {tx : Nat → Nat} (I : CI h σ s st n tx) : CI (hpg h 92 γ) σ s st n tx ∧ frm 1 102 h (hpg h 92 γ) := by
  obtain ⟨φ, p1, p2⟩ := I.F
  obtain ⟨x, q⟩ := I.H
  have f : frm 92 100 h (hpg h 92 γ) := frm_pg
  exact ⟨I.by f ⟨f.A I.A (by omega), I.Z⟩ ⟨φ, f.A p1 (by omega), p2⟩ ⟨x, q.fr f (by omega)⟩ (f.Sc I.T (by omega)), f.wi (by omega) (by omega)⟩
theorem CI.push {h : sn_H} {σ : sn_V} {s : Nat} {st : Nat → sn_V} {n : Nat} {tx : Nat → Nat} {Q : Option Value → sn_H → Prop} (I : CI h σ s st n tx)
    (H : ∀ h', frm 1 102 h h' → CI h' σ (min 6 (s + 1)) (hPush s st σ) n tx → Q none h') : wpE 6 0 [some (.ref 24), some (.ref 2)] [] h (0, 0) Q := by
  obtain ⟨φ, p1, p2⟩ := I.F
  obtain ⟨x, q⟩ := I.H
  exact s_H_push q I.A I.Z (by omega) (fun h' f hh => H h' (f.wi (by omega) (by omega)) (I.by f ⟨f.A I.A (by omega), I.Z⟩ ⟨φ, f.A p1 (by omega), p2⟩ ⟨_, hh⟩ (f.Sc I.T (by omega))))
theorem grA (h : sn_H) {g : Nat} (S : GrS h g) : ∃ γ, h = hpg h g γ := ⟨fun j k => hG h (g + j) k, GrA.put ⟨S, fun _ _ _ => rfl⟩⟩
/-- the end of a pair of calls -/
theorem two_fin {B L : Nat} {scr : Nat → Int32} {h : sn_H} {c : Nat} {σ : sn_V} {s : Nat} {st : Nat → sn_V} {n : Nat} {tx : Nat → Nat} {μ : sn_V} (La : LaS h L scr) (I : CI h σ s st n tx) (S : MoS h 103) (R : RI B c σ s st n tx μ) : Inv B L scr (mpt h 103 μ) :=
  ⟨mpt_f.La La (by omega), c, σ, s, st, n, tx, μ, I.out mpt_f (by omega), mpt_A S, R⟩
theorem RI.mono {B B' c : Nat} {σ : sn_V} {s : Nat} {st : Nat → sn_V} {n : Nat} {tx : Nat → Nat} {μ : sn_V} (R : RI B c σ s st n tx μ) (h : B ≤ B') : RI B' c σ s st n tx μ :=
  ⟨⟨R.1.1, by have := R.1.2; omega⟩, R.2.1, fun k hk => by obtain ⟨c', a, b⟩ := R.2.2.1 k hk; exact ⟨c', by omega, b⟩, R.2.2.2.1, R.2.2.2.2⟩
theorem Inv.mono {B B' L : Nat} {scr : Nat → Int32} {h : sn_H} (I : Inv B L scr h) (hb : B ≤ B') : Inv B' L scr h := by
  obtain ⟨La, c, σ, s, st, n, tx, μ, C, A, R⟩ := I
  exact ⟨La, c, σ, s, st, n, tx, μ, C, A, R.mono hb⟩
theorem Rel.cg {c : Nat} {σ : sn_V} {a a' : Nat → Int32} (R : Rel c σ a) (e : ∀ j, j < 596 → a' j = a j) : Rel c σ a' := by
  obtain ⟨⟨r1, r1'⟩, ⟨p, p1, p2, p3⟩, r3, r4, r5, r6, r7, r8, r9⟩ := R
  refine ⟨⟨r1, by rw [e 0 (by omega)]; exact r1'⟩, ⟨p, p1, p2, by rw [e 1 (by omega)]; exact p3⟩, fun r hr => by rw [e _ (by omega)]; exact r3 r hr, by rw [e 5 (by omega)]; exact r4, fun q hq => by rw [e _ (by omega), e _ (by omega)]; exact r5 q hq, fun k hk => by rw [e _ (by omega), e _ (by omega)]; exact r6 k hk, r7, fun i hi => ?_, fun n a1 a2 a3 => ?_⟩
  · exact (r8 i hi).cg Iff.rfl rfl rfl rfl (fun _ _ => rfl) (fun _ _ => rfl) (fun j hj => e _ (by omega))
  · exact (r9 n a1 a2 a3).cg rfl rfl rfl (fun _ _ => rfl) (fun j hj => e _ (by omega))
/-- the state is saved on both sides -/
theorem RI.push {B c : Nat} {σ : sn_V} {s : Nat} {st : Nat → sn_V} {n : Nat} {tx : Nat → Nat} {μ μ' : sn_V} (R : RI B c σ s st n tx μ) (g0 : ∀ j k, j ≠ 3 → ¬ (j = 0 ∧ k = 3) → μ' j k = μ j k) (g1 : μ' 0 3 = nI (min 6 (s + 1)))
    (g2 : ∀ i, i < min 6 (s + 1) → ∀ j, j < 596 → μ' 3 (596 * i + j) = (if s < 6 then (if i = s then μ 1 j else μ 3 (596 * i + j)) else (if i = 5 then μ 1 j else μ 3 (596 * (i + 1) + j)))) : RI B c σ (min 6 (s + 1)) (hPush s st σ) n tx μ' := by
  obtain ⟨⟨r1, r2⟩, ⟨r3, r4⟩, r5, ⟨r6, r7⟩, r8⟩ := R
  have e1 : μ' 1 = μ 1 := funext fun k => g0 1 k (by omega) (by omega)
  refine ⟨⟨by rw [e1]; exact r1, r2⟩, ⟨by omega, g1⟩, fun k hk => ?_, ⟨r6, by rw [g0 0 5 (by omega) (by omega)]; exact r7⟩, fun i hi => by rw [g0 4 i (by omega) (by omega)]; exact r8 i hi⟩
  unfold hPush
  by_cases s6 : s < 6
  · rw [if_pos s6]
    by_cases ks : k = s
    · rw [if_pos ks]
      refine ⟨c, r2, r1.cg (fun j hj => ?_)⟩
      show μ' 3 (596 * k + j) = _
      rw [g2 k hk j hj, if_pos s6, if_pos ks]
    · rw [if_neg ks]
      obtain ⟨c', a, b⟩ := r5 k (by omega)
      refine ⟨c', a, b.cg (fun j hj => ?_)⟩
      show μ' 3 (596 * k + j) = _
      rw [g2 k hk j hj, if_pos s6, if_neg ks]
  · rw [if_neg s6]
    by_cases ks : k = 5
    · rw [if_pos ks]
      refine ⟨c, r2, r1.cg (fun j hj => ?_)⟩
      show μ' 3 (596 * k + j) = _
      rw [g2 k hk j hj, if_neg s6, if_pos ks]
    · rw [if_neg ks]
      obtain ⟨c', a, b⟩ := r5 (k + 1) (by omega)
      refine ⟨c', a, b.cg (fun j hj => ?_)⟩
      show μ' 3 (596 * k + j) = _
      rw [g2 k hk j hj, if_neg s6, if_neg ks]
/-- another state, other scratch numbers -/
theorem RI.to {B B' c c' : Nat} {σ σ' : sn_V} {s : Nat} {st : Nat → sn_V} {n : Nat} {tx : Nat → Nat} {μ μ' : sn_V} (R : RI B c σ s st n tx μ) (R' : Rel c' σ' (μ' 1)) (hc : c' ≤ B') (hB : B ≤ B') (g3 : μ' 0 3 = μ 0 3) (g5 : μ' 0 5 = μ 0 5) (gh : ∀ k, μ' 3 k = μ 3 k) (gt : ∀ k, μ' 4 k = μ 4 k) : RI B' c' σ' s st n tx μ' := by
  obtain ⟨_, ⟨r3, r4⟩, r5, ⟨r6, r7⟩, r8⟩ := R
  refine ⟨⟨R', hc⟩, ⟨r3, by rw [g3]; exact r4⟩, fun k hk => ?_, ⟨r6, by rw [g5]; exact r7⟩, fun i hi => by rw [gt]; exact r8 i hi⟩
  obtain ⟨c'', a, b⟩ := r5 k hk
  exact ⟨c'', by omega, b.cg (fun j _ => gh _)⟩
theorem m_push {h : sn_H} {B c : Nat} {σ : sn_V} {s : Nat} {st : Nat → sn_V} {n : Nat} {tx : Nat → Nat} {μ : sn_V} {Q : Option Value → sn_H → Prop} (S : MoS h 103) (R : RI B c σ s st n tx μ)
    (H : ∀ μ', μ' 1 = μ 1 → RI B c σ (min 6 (s + 1)) (hPush s st σ) n tx μ' → Q none (mpt h 103 μ')) : wpE 100 0 [some (.ref 103), none] [] (mpt h 103 μ) (0, 0) Q :=
  s_M_record S R.2.1.1 R.2.1.2 (fun μ' g0 g1 g2 => H μ' (funext fun k => g0 1 k (by omega) (by omega)) (R.push g0 g1 g2))
/-- arguments -/
theorem ar_lo {v : Int32} (h : v < 0) : v < nI 0 := by rw [nI_0]; exact h
theorem ar_hi {v : Int32} {n : Nat} (hn : n + 1 < 2 ^ 31) : nI (n + 1) ≤ v ↔ nI n < v := by
  rw [Int32.le_iff_toInt_le, Int32.lt_iff_toInt_lt, nI_toInt hn, nI_toInt (by omega)]
  omega
theorem ar_n0 {w : Nat} (h : w < 2 ^ 31) : ¬ nI w < 0 := nI_pos h
theorem ar_n0' {w : Nat} (h : w < 2 ^ 31) : ¬ nI w < nI 0 := by rw [nI_0]; exact nI_pos h
theorem ar_nl {w n : Nat} (h : w < n) (hn : n < 2 ^ 31) : ¬ nI n ≤ nI w := nI_ge h hn
theorem ar_nl' {w n : Nat} (h : w ≤ n) (hn : n < 2 ^ 31) : ¬ nI n < nI w := nI_nlt h hn
theorem ar_ng {v : Int32} {n : Nat} (h : nI n ≤ v) (hn : n < 2 ^ 31) : ¬ v < 0 := by
  rw [Int32.le_iff_toInt_le, nI_toInt hn] at h
  rw [Int32.lt_iff_toInt_lt]
  have : (0 : Int32).toInt = 0 := rfl
  omega
theorem ar_ng' {v : Int32} {n : Nat} (h : nI n ≤ v) (hn : n < 2 ^ 31) : ¬ v < nI 0 := by rw [nI_0]; exact ar_ng h hn
