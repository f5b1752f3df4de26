/-! ===== the class alone: its world, its calls (rows of whole, numbers of this claim) ===== -/
def bi (b : Bool) : Int32 := if b = true then nI 1 else nI 0
theorem bi_f : (nI 0 : Int32) = 0 := by decide
theorem bi_t : ¬ (nI 1 : Int32) = 0 := by decide
theorem nI_le0 {n : Nat} (hn : n < 2 ^ 31) : nI n ≤ 0 ↔ n = 0 := by
  rw [← nI_0, nI_leI hn (by omega)]
  omega
theorem smN_last {f : Nat → Nat} : ∀ m i, smN f (m + 1) i = smN f m i + f (i + m) := by
  intro m
  induction m with
  | zero => intro i; show f i + 0 = 0 + f i; omega
  | succ m ih =>
    intro i
    show f i + smN f (m + 1) (i + 1) = f i + smN f m (i + 1) + f (i + (m + 1))
    rw [ih (i + 1), show i + 1 + m = i + (m + 1) by omega]
    omega
theorem add_n0 (x : Int32) : x + nI 0 = x := by rw [nI_0, Int32.add_zero]
/-- relations of the class's graph -/
def gR (σ : sn_V) (N : Nat) (nr nn : Nat → Nat) (a b : Nat) : Bool := ((decide (a < N) && decide (b < N)) && decide (¬ a = b)) && decide (¬ ed σ nr nn a b = 0)
def gO (σ : sn_V) (N : Nat) (nr nn : Nat → Nat) (a b : Nat) : Bool := ((decide (a < N) && decide (b < N)) && decide (¬ a = b)) && dB3 σ (nr a) (nr b) (nI (nn b)) 12
theorem gR_iff {σ : sn_V} {N : Nat} {nr nn : Nat → Nat} {a b : Nat} : gR σ N nr nn a b = true ↔ dnA N a b ∧ ¬ ed σ nr nn a b = 0 := by
  unfold gR dnA
  rw [Bool.and_eq_true, Bool.and_eq_true, Bool.and_eq_true, decide_eq_true_iff, decide_eq_true_iff, decide_eq_true_iff, decide_eq_true_iff, and_assoc (a := a < N)]
theorem gO_iff {σ : sn_V} {N : Nat} {nr nn : Nat → Nat} {a b : Nat} : gO σ N nr nn a b = true ↔ dnA N a b ∧ o4 σ nr nn a b := by
  unfold gO dnA o4
  rw [Bool.and_eq_true, Bool.and_eq_true, Bool.and_eq_true, decide_eq_true_iff, decide_eq_true_iff, decide_eq_true_iff, and_assoc (a := a < N)]
theorem dV_7 (x y z : Bool) : dV x y z &&& nI 7 = dV x y z := by cases x <;> cases y <;> cases z <;> decide
theorem anyN_cg {p q : Nat → Bool} {n : Nat} (h : ∀ k, k < n → p k = q k) : anyN p n = anyN q n := by
  rw [Bool.eq_iff_iff, anyN_t, anyN_t]
  constructor
  · rintro ⟨k, a, b⟩; exact ⟨k, a, by rw [← h k a]; exact b⟩
  · rintro ⟨k, a, b⟩; exact ⟨k, a, by rw [h k a]; exact b⟩
def gRo (σ : sn_V) (c i : Nat) : Nat → Nat → Bool := gR σ (min 16 c + 1) (nrJ (min 16 c) i (nrC c (min 16 c))) (nrJ (min 16 c) (c + 1) (nnC c (min 16 c)))
def gOo (σ : sn_V) (c i : Nat) : Nat → Nat → Bool := gO σ (min 16 c + 1) (nrJ (min 16 c) i (nrC c (min 16 c))) (nrJ (min 16 c) (c + 1) (nnC c (min 16 c)))
theorem gR_irr {σ : sn_V} {N : Nat} {nr nn : Nat → Nat} {a : Nat} : gR σ N nr nn a a = false := by
  unfold gR
  rw [decide_eq_false (p := ¬ a = a) (fun q => q rfl), Bool.and_false, Bool.false_and]
theorem gO_irr {σ : sn_V} {N : Nat} {nr nn : Nat → Nat} {a : Nat} : gO σ N nr nn a a = false := by
  unfold gO
  rw [decide_eq_false (p := ¬ a = a) (fun q => q rfl), Bool.and_false, Bool.false_and]
/-- a pivot -/
def pvtB (O : Nat → Nat → Bool) (n i : Nat) : Bool := anyN (fun a => O a i) n && anyN (fun b => O i b) n
def pvK (O : Nat → Nat → Bool) (n : Nat) : Bool := (pvtB O n (n - 1) || anyN (fun j => O (n - 1) j && pvtB O n j) n) || anyN (fun i => pvtB O n i && O i (n - 1)) (n - 1)
theorem pvtB_t {O : Nat → Nat → Bool} {n i : Nat} : pvtB O n i = true ↔ pvt O n i := by
  unfold pvtB pvt
  rw [Bool.and_eq_true, anyN_t, anyN_t]
theorem pvK_t {O : Nat → Nat → Bool} {n : Nat} : pvK O n = true ↔ pivB O n := by
  unfold pvK pivB
  rw [Bool.or_eq_true, Bool.or_eq_true, anyN_t, anyN_t, pvtB_t, or_assoc]
  constructor
  · rintro (h | ⟨j, a, b⟩ | ⟨j, a, b⟩)
    · exact Or.inl h
    · rw [Bool.and_eq_true, pvtB_t] at b; exact Or.inr (Or.inl ⟨j, a, b.1, b.2⟩)
    · rw [Bool.and_eq_true, pvtB_t] at b; exact Or.inr (Or.inr ⟨j, a, b.1, b.2⟩)
  · rintro (h | ⟨j, a, b, d⟩ | ⟨j, a, b, d⟩)
    · exact Or.inl h
    · exact Or.inr (Or.inl ⟨j, a, by rw [Bool.and_eq_true, pvtB_t]; exact ⟨b, d⟩⟩)
    · exact Or.inr (Or.inr ⟨j, a, by rw [Bool.and_eq_true, pvtB_t]; exact ⟨b, d⟩⟩)
/-- the reason, of the class -/
def ovC (σ : sn_V) (i : Nat) : Bool := anyN (fun k => decide (bitP (σ 8 i) k) && decide (σ 6 i < σ 5 k)) 12
theorem ovC_t {σ : sn_V} {i : Nat} : ovC σ i = true ↔ oNew σ i := by
  unfold ovC oNew
  rw [anyN_t]
  constructor
  · rintro ⟨k, a, b⟩
    rw [Bool.and_eq_true, decide_eq_true_iff, decide_eq_true_iff] at b
    exact ⟨k, a, b.1, b.2⟩
  · rintro ⟨k, a, b, d⟩
    exact ⟨k, a, by rw [Bool.and_eq_true, decide_eq_true_iff, decide_eq_true_iff]; exact ⟨b, d⟩⟩
def wyC (σ : sn_V) (c i p : Nat) : Nat := if ovC σ i = true then 1 else if p < 1 then 0 else if 0 < rgQ (gRo σ c i) (min 16 c + 1) then 2 else if p < 2 then 0 else if pvK (gOo σ c i) (min 16 c + 1) = true then 3 else 0
theorem wyC_lt (σ : sn_V) (c i p : Nat) : wyC σ c i p < 4 := by unfold wyC; split; omega; split; omega; split; omega; split; omega; split <;> omega
theorem gR_lt {σ : sn_V} {N : Nat} {nr nn : Nat → Nat} {x y : Nat} (h : gR σ N nr nn x y = true) : y < N := (gR_iff.mp h).1.2.1
theorem gO_lt {σ : sn_V} {N : Nat} {nr nn : Nat → Nat} {x y : Nat} (h : gO σ N nr nn x y = true) : y < N := (gO_iff.mp h).1.2.1
theorem sumK_cg {m : Int32} {f g : Nat → Int32} : ∀ n, (∀ k, k < n → f k = g k) → sumK m f n = sumK m g n := by
  intro n
  induction n with
  | zero => intro _; rfl
  | succ n ih =>
    intro h
    unfold sumK
    rw [ih (fun k hk => h k (by omega)), h n (Nat.lt_succ_self n)]
theorem cpV_n {σ : sn_V} {a s d t n j k : Nat} (h : ¬ (j = d ∧ t ≤ k ∧ k < t + n)) : cpV σ a s d t n j k = σ j k := if_neg h
/-- refused -/
def fRef (σ : sn_V) (i y : Nat) : sn_V := up (fFree σ i) 1 y (fFree σ i 1 y + nI 1)
theorem fKC_n {σ : sn_V} {i j k : Nat} (h4 : j ≠ 4) (h5 : j ≠ 5) : fKC σ i 12 j k = σ j k := by
  unfold fKC
  rw [if_neg (fun z => h4 z.1), if_neg (fun z => h5 z.1)]
def XS (h : sn_H) : Prop := hK h 1 = (0, 0, 5) ∧ hR h 1 0 = some 2 ∧ hR h 1 1 = some 13 ∧ hR h 1 2 = some 24 ∧ hR h 1 3 = some 92 ∧ hR h 1 4 = some 101
def ScA (h : sn_H) (n : Nat) (tx : Nat → Nat) : Prop := hK h 101 = (0, 4, 2) ∧ hR h 101 0 = some 102 ∧ hK h 102 = (2, 0, 80) ∧ hG h 101 1 = nI n ∧ ∀ i, i < n → hG h 102 i = nI (tx i)
def CI (h : sn_H) (σ : sn_V) (s : Nat) (st : Nat → sn_V) (n : Nat) (tx : Nat → Nat) : Prop := XS h ∧ (StA h 2 σ ∧ StZ σ) ∧ (∃ φ, StA h 13 φ ∧ StZ φ) ∧ (∃ x, HiA h 24 s x st) ∧ GrS h 92 ∧ ScA h n tx
def LaS (h : sn_H) (L : Nat) (scr : Nat → Int32) : Prop := hK h 0 = (1, 1, L) ∧ ∀ k, hG h 0 k = scr k
theorem frm.XS' {lo hi : Nat} {h h' : sn_H} (f : frm lo hi h h') (X : XS h) : XS h' := ⟨(f.K _).trans X.1, (f.R _ _).trans X.2.1, (f.R _ _).trans X.2.2.1, (f.R _ _).trans X.2.2.2.1, (f.R _ _).trans X.2.2.2.2.1, (f.R _ _).trans X.2.2.2.2.2⟩
theorem frm.Gr {lo hi : Nat} {h h' : sn_H} (f : frm lo hi h h') {g : Nat} (S : GrS h g) : GrS h' g := ⟨(f.K _).trans S.1, fun j hj => ⟨(f.R _ _).trans (S.2 j hj).1, (f.K _).trans (S.2 j hj).2⟩⟩
theorem frm.Sc {lo hi : Nat} {h h' : sn_H} (f : frm lo hi h h') {n : Nat} {tx : Nat → Nat} (S : ScA h n tx) (hb : hi < 101 ∨ 102 < lo) : ScA h' n tx :=
  ⟨(f.K _).trans S.1, (f.R _ _).trans S.2.1, (f.K _).trans S.2.2.1, (f.2.2.2 _ _ (by omega)).trans S.2.2.2.1, fun i hi => (f.2.2.2 _ _ (by omega)).trans (S.2.2.2.2 i hi)⟩
theorem frm.La {lo hi : Nat} {h h' : sn_H} (f : frm lo hi h h') {L : Nat} {scr : Nat → Int32} (A : LaS h L scr) (hb : 0 < lo) : LaS h' L scr := ⟨(f.K _).trans A.1, fun k => (f.2.2.2 _ _ (by omega)).trans (A.2 k)⟩
theorem CI.by {lo hi : Nat} {h h' : sn_H} {σ σ' : sn_V} {s s' : Nat} {st st' : Nat → sn_V} {n n' : Nat} {tx tx' : Nat → Nat} (I : CI h σ s st n tx) (f : frm lo hi h h') (hS : StA h' 2 σ' ∧ StZ σ') (hF : ∃ φ, StA h' 13 φ ∧ StZ φ) (hH : ∃ x, HiA h' 24 s' x st') (hT : ScA h' n' tx') : CI h' σ' s' st' n' tx' :=
  ⟨f.XS' I.1, hS, hF, hH, f.Gr I.2.2.2.2.1, hT⟩
theorem CI.X {h : sn_H} {σ : sn_V} {s : Nat} {st : Nat → sn_V} {n : Nat} {tx : Nat → Nat} (I : CI h σ s st n tx) : XS h := I.1
theorem CI.A {h : sn_H} {σ : sn_V} {s : Nat} {st : Nat → sn_V} {n : Nat} {tx : Nat → Nat} (I : CI h σ s st n tx) : StA h 2 σ := I.2.1.1
theorem CI.Z {h : sn_H} {σ : sn_V} {s : Nat} {st : Nat → sn_V} {n : Nat} {tx : Nat → Nat} (I : CI h σ s st n tx) : StZ σ := I.2.1.2
theorem CI.G {h : sn_H} {σ : sn_V} {s : Nat} {st : Nat → sn_V} {n : Nat} {tx : Nat → Nat} (I : CI h σ s st n tx) : GrS h 92 := I.2.2.2.2.1
theorem CI.T {h : sn_H} {σ : sn_V} {s : Nat} {st : Nat → sn_V} {n : Nat} {tx : Nat → Nat} (I : CI h σ s st n tx) : ScA h n tx := I.2.2.2.2.2
theorem CI.H {h : sn_H} {σ : sn_V} {s : Nat} {st : Nat → sn_V} {n : Nat} {tx : Nat → Nat} (I : CI h σ s st n tx) : ∃ x, HiA h 24 s x st := I.2.2.2.1
theorem CI.F {h : sn_H} {σ : sn_V} {s : Nat} {st : Nat → sn_V} {n : Nat} {tx : Nat → Nat} (I : CI h σ s st n tx) : ∃ φ, StA h 13 φ ∧ StZ φ := I.2.2.1
theorem CI.kH {h : sn_H} {σ : sn_V} {s : Nat} {st : Nat → sn_V} {n : Nat} {tx : Nat → Nat} (I : CI h σ s st n tx) : hK h 24 = (0, 2, 3) := by
  obtain ⟨x, hx⟩ := I.H
  exact hx.1.1
theorem CI.g0 {h : sn_H} {σ : sn_V} {s : Nat} {st : Nat → sn_V} {n : Nat} {tx : Nat → Nat} (I : CI h σ s st n tx) (k : Nat) : hG h 2 k = σ 0 k := I.A.2 0 (by decide) k
/-- outside of the class's places -/
theorem CI.out {lo hi : Nat} {h h' : sn_H} {σ : sn_V} {s : Nat} {st : Nat → sn_V} {n : Nat} {tx : Nat → Nat} (I : CI h σ s st n tx) (f : frm lo hi h h') (hb : 102 < lo) : CI h' σ s st n tx := by
  obtain ⟨φ, p1, p2⟩ := I.F
  obtain ⟨x, q⟩ := I.H
  exact I.by f ⟨f.A I.A (by omega), I.Z⟩ ⟨φ, f.A p1 (by omega), p2⟩ ⟨x, q.fr f (by omega)⟩ (f.Sc I.T (by omega))
theorem CI.put {h : sn_H} {σ σ' : sn_V} {s : Nat} {st : Nat → sn_V} {n : Nat} {tx : Nat → Nat} (I : CI h σ s st n tx) (Z : StZ σ') : CI (hput h 2 σ') σ' s st n tx ∧ frm 1 102 h (hput h 2 σ') := by
  obtain ⟨φ, p1, p2⟩ := I.F
  obtain ⟨x, q⟩ := I.H
  have f : frm 2 12 h (hput h 2 σ') := frm_put
  exact ⟨I.by f ⟨hput_A I.A.1, Z⟩ ⟨φ, f.A p1 (by omega), p2⟩ ⟨x, q.fr f (by omega)⟩ (f.Sc I.T (by omega)), f.wi (by omega) (by omega)⟩
theorem CI.fo {h : sn_H} {σ φ' : sn_V} {s : Nat} {st : Nat → sn_V} {n : Nat} {tx : Nat → Nat} (I : CI h σ s st n tx) (Z : StZ φ') : CI (hput h 13 φ') σ s st n tx ∧ frm 1 102 h (hput h 13 φ') := by
  obtain ⟨φ, p1, p2⟩ := I.F
  obtain ⟨x, q⟩ := I.H
  have f : frm 13 23 h (hput h 13 φ') := frm_put
  exact ⟨I.by f ⟨f.A I.A (by omega), I.Z⟩ ⟨φ', hput_A p1.1, Z⟩ ⟨x, q.fr f (by omega)⟩ (f.Sc I.T (by omega)), f.wi (by omega) (by omega)⟩
theorem frm_pg {h : sn_H} {g : Nat} {γ : sn_V} : frm g (g + 8) h (hpg h g γ) := ⟨rfl, rfl, rfl, fun _ _ hq => if_neg hq⟩
theorem CI.gr {h : sn_H} {σ γ : sn_V} {s : Nat} {st : Nat → sn_V} {n : Nat} {tx : Nat → Nat} (I : CI h σ s st n tx) : CI (hpg h 92 γ) σ s st n tx ∧ frm 1 102 h (hpg h 92 γ) := by
  obtain ⟨φ, p1, p2⟩ := I.F
  obtain ⟨x, q⟩ := I.H
  have f : frm 92 100 h (hpg h 92 γ) := frm_pg
  exact ⟨I.by f ⟨f.A I.A (by omega), I.Z⟩ ⟨φ, f.A p1 (by omega), p2⟩ ⟨x, q.fr f (by omega)⟩ (f.Sc I.T (by omega)), f.wi (by omega) (by omega)⟩
theorem CI.push {h : sn_H} {σ : sn_V} {s : Nat} {st : Nat → sn_V} {n : Nat} {tx : Nat → Nat} {Q : Option Value → sn_H → Prop} (I : CI h σ s st n tx)
    (H : ∀ h', frm 1 102 h h' → CI h' σ (min 6 (s + 1)) (hPush s st σ) n tx → Q none h') : wpE 6 0 [some (.ref 24), some (.ref 2)] [] h (0, 0) Q := by
  obtain ⟨φ, p1, p2⟩ := I.F
  obtain ⟨x, q⟩ := I.H
  exact s_H_push q I.A I.Z (by omega) (fun h' f hh => H h' (f.wi (by omega) (by omega)) (I.by f ⟨f.A I.A (by omega), I.Z⟩ ⟨φ, f.A p1 (by omega), p2⟩ ⟨_, hh⟩ (f.Sc I.T (by omega))))
theorem grA (h : sn_H) {g : Nat} (S : GrS h g) : ∃ γ, h = hpg h g γ := ⟨fun j k => hG h (g + j) k, GrA.put ⟨S, fun _ _ _ => rfl⟩⟩
/-- arguments -/
theorem ar_lo {v : Int32} (h : v < 0) : v < nI 0 := by rw [nI_0]; exact h
theorem ar_hi {v : Int32} {n : Nat} (hn : n + 1 < 2 ^ 31) : nI (n + 1) ≤ v ↔ nI n < v := by
  rw [Int32.le_iff_toInt_le, Int32.lt_iff_toInt_lt, nI_toInt hn, nI_toInt (by omega)]
  omega
theorem ar_n0 {w : Nat} (h : w < 2 ^ 31) : ¬ nI w < 0 := nI_pos h
theorem ar_n0' {w : Nat} (h : w < 2 ^ 31) : ¬ nI w < nI 0 := by rw [nI_0]; exact nI_pos h
theorem ar_nl {w n : Nat} (h : w < n) (hn : n < 2 ^ 31) : ¬ nI n ≤ nI w := nI_ge h hn
theorem ar_nl' {w n : Nat} (h : w ≤ n) (hn : n < 2 ^ 31) : ¬ nI n < nI w := nI_nlt h hn
theorem ar_ng {v : Int32} {n : Nat} (h : nI n ≤ v) (hn : n < 2 ^ 31) : ¬ v < 0 := by
  rw [Int32.le_iff_toInt_le, nI_toInt hn] at h
  rw [Int32.lt_iff_toInt_lt]
  have : (0 : Int32).toInt = 0 := rfl
  omega
theorem ar_ng' {v : Int32} {n : Nat} (h : nI n ≤ v) (hn : n < 2 ^ 31) : ¬ v < nI 0 := by rw [nI_0]; exact ar_ng h hn
theorem Z_start {σ : sn_V} {i : Nat} (Z : StZ σ) (hi : i < 8) : StZ (fStart σ i) :=
  ((((((Z.upz (by decide)).upz (show i < 24 by omega)).upz (show i < 24 by omega)).upz (show i < 24 by omega)).cpz (show i * 12 + 12 ≤ 288 by omega)).cpz (show i * 12 + 12 ≤ 96 by omega))
theorem Z_read {σ : sn_V} {i k : Nat} (Z : StZ σ) (hi : i < 8) : StZ (fRead σ i k) := Z.upz (show i < 24 by omega)
theorem Z_write {σ : sn_V} {i k : Nat} {v : Int32} (Z : StZ σ) (hi : i < 8) (hk : k < 12) : StZ (fWrite σ i k v) := (Z.upz (show i < 24 by omega)).upz (show i * 12 + k < 96 by omega)
theorem Z_free {σ : sn_V} {i : Nat} (Z : StZ σ) : StZ (fFree σ i) := Z.upz (by decide)
theorem Z_give {σ : sn_V} {i : Nat} (Z : StZ σ) : StZ (fGive σ i) := (Z_free Z).upz (by decide)
theorem Z_ref {σ : sn_V} {i y : Nat} (Z : StZ σ) (hy : y < 4) : StZ (fRef σ i y) := (Z_free Z).upz (show y < 4 from hy)
theorem Z_keep {σ : sn_V} {i r : Nat} (Z : StZ σ) (hr : r < 24) : StZ (fKeep σ i r) := by
  have Z1 : StZ (fKeep1 σ i r) := ((((((Z.upz (by decide)).upz (by decide)).upz (show r < 24 from hr)).upz (show r < 24 from hr)).upz (show r < 24 from hr)).cpz (show r * 12 + 12 ≤ 288 by omega))
  intro j k hj hk
  unfold fKeep fKC
  rw [if_neg (fun z => by rw [z.1] at hk; have : 12 ≤ k := hk; omega), if_neg (fun z => by rw [z.1] at hk; have : 12 ≤ k := hk; omega)]
  exact Z1 j k hj hk
theorem s_X_reason {h : sn_H} {b i p c : Nat} {σ : sn_V} {Q : Option Value → sn_H → Prop} (X : XS h) (S : GrS h 92) (A : StA h b σ) (hb : b + 10 < 92) (hσ : σ 0 1 = nI c) (hc : c < 2 ^ 30) (hi : i < 8) (hp : p < 3)
    (H : ∀ γ, Q (some (.int (nI (wyC σ c i p)))) (hpg h 92 γ)) : wpE 27 0 [some (.ref 1), some (.ref b), some (.int (nI i)), some (.int (nI p))] [] h (0, 0) Q := by
  obtain ⟨γ0, e⟩ := grA h S
  have hn : min 16 c ≤ 16 := Nat.min_le_left _ _
  have hb' : b + 10 < 92 ∨ 92 + 8 < b := Or.inl hb
  unfold wyC at H
  refine r_X_reasonToRefuse_0 A.1.1 (s_S_overwritesNewer A hi (fun o => ?_) (fun o => ?_))
  · have hh := H γ0
    rw [if_pos (ovC_t.mpr o), ← e] at hh
    exact r_X_reasonToRefuse_5 X.1 X.2.2.2.2.1 S.1 (fun z => absurd z bi_t) (fun z => absurd z bi_t) (fun _ => hh)
  · rw [if_neg (fun z => o (ovC_t.mp z))] at H
    refine r_X_reasonToRefuse_5 X.1 X.2.2.2.2.1 S.1 (fun _ z => ?_) (fun _ z => ?_) (fun z => absurd bi_f z)
    · rw [nI_leI (by omega) (by omega)] at z
      rw [if_neg (by omega)] at H
      rw [e]
      refine s_G_load S A hb' hσ hc (fun γ1 G1 => ?_)
      refine r_X_reasonToRefuse_25 X.1 X.2.2.2.2.1 S.1 ?_
      refine s_G_join S A hb' hn (fun x _ => by unfold nrC; omega) (by omega) hσ G1 (fun γ2 G2 => ?_)
      refine r_X_reasonToRefuse_34 X.1 X.2.2.2.2.1 S.1 ?_
      refine s_G_findRing (n := min 16 c + 1) (R := gRo σ c i) (nn := nrJ (min 16 c) (c + 1) (nnC c (min 16 c))) S (by omega) (by omega) G2.1 (fun x j hx hj => ((G2.2 x hx).2.2.1 j (by omega)).trans gR_iff.symm) (fun j hj => (G2.2 j hj).2.1) (fun γ3 f1 f2 f3 => ?_)
      have q16 : rgQ (gRo σ c i) (min 16 c + 1) ≤ 17 := by
        unfold rgQ
        split
        · omega
        · exact nst_le _
      have e9 : hG (hpg h 92 γ3) 92 9 = nI (rgQ (gRo σ c i) (min 16 c + 1)) := by rw [hpg_get0]; exact f2
      refine r_X_reasonToRefuse_41 X.1 X.2.2.2.2.1 S.1 (fun y w => ?_) (fun y w => ?_) (fun y => ?_)
      · rw [e9, nI_le0 (by omega)] at y
        rw [nI_leI (by omega) (by omega)] at w
        rw [if_neg (by omega), if_neg (by omega)] at H
        refine s_G_hasPivot (n := min 16 c + 1) (O := gOo σ c i) S (by omega) (by omega) (by rw [f1 0 0 (by omega) (by omega) (by omega)]; exact G2.1) (fun x j hx hj => by rw [f1 5 x (by omega) (by omega) (by omega)]; exact ((G2.2 x hx).2.2.2.1 j hj).trans gO_iff.symm) (fun _ _ q => gO_lt q) (fun o2 => ?_) (fun o2 => ?_)
        · have hh := H γ3
          rw [if_pos (pvK_t.mpr o2)] at hh
          exact r_X_reasonToRefuse_67 (fun q => absurd q bi_t) (fun _ => hh)
        · have hh := H γ3
          rw [if_neg (fun q => o2 (pvK_t.mp q))] at hh
          exact r_X_reasonToRefuse_67 (fun _ => hh) (fun q => absurd bi_f q)
      · rw [e9, nI_le0 (by omega)] at y
        rw [nI_leI (by omega) (by omega)] at w
        have hh := H γ3
        rw [if_neg (by omega), if_pos (by omega)] at hh
        exact hh
      · rw [e9, nI_le0 (by omega)] at y
        have hh := H γ3
        rw [if_pos (by omega)] at hh
        exact hh
    · rw [nI_leI (by omega) (by omega)] at z
      have hh := H γ0
      rw [if_pos (by omega), ← e] at hh
      exact hh
/-- what a commit answers, and what it makes of the state -/
def cmV (σ : sn_V) (c i p : Nat) : Int32 := if 0 < wyC σ c i p then -(nI (wyC σ c i p)) else nI (c + 1)
def cmS (σ : sn_V) (c i p : Nat) : sn_V := if 0 < wyC σ c i p then fRef σ i (wyC σ c i p) else fKeep σ i (8 + c % 16)
def cmC (σ : sn_V) (c i p : Nat) : Nat := if 0 < wyC σ c i p then c else c + 1
theorem cmC_le {σ : sn_V} {c i p : Nat} : cmC σ c i p ≤ c + 1 := by unfold cmC; split <;> omega
theorem Z_cm {σ : sn_V} {c i p : Nat} (Z : StZ σ) : StZ (cmS σ c i p) := by
  unfold cmS
  split
  · exact Z_ref Z (wyC_lt _ _ _ _)
  · exact Z_keep Z (by omega)
theorem s_X_finish {h : sn_H} {b i p c : Nat} {σ : sn_V} {Q : Option Value → sn_H → Prop} (X : XS h) (S : GrS h 92) (A : StA h b σ) (hb : b + 10 < 92) (hσ : σ 0 1 = nI c) (hc : c < 2 ^ 30) (hi : i < 8) (hp : p < 3) (h0 : σ 0 0 = nI p)
    (H : ∀ γ, Q (some (.int (cmV σ c i p))) (hput (hpg h 92 γ) b (cmS σ c i p))) : wpE 26 0 [some (.ref 1), some (.ref b), some (.int (nI i)), none] [] h (0, 0) Q := by
  refine r_X_finish_0 A.1.1 X.1 ?_
  have e0 : hG h b 0 = nI p := (A.2 0 (by decide) 0).trans h0
  rw [e0]
  refine s_X_reason X S A hb hσ hc hi hp (fun γ => ?_)
  have H := H γ
  have A2 : StA (hpg h 92 γ) b σ := hpg_St A (Or.inl hb)
  have w4 := wyC_lt σ c i p
  unfold cmV cmS at H
  generalize wyC σ c i p = y at H w4 ⊢
  refine r_X_finish_10 A.1.1 A.1.f4 A.1.k1 (fun z => ?_) (fun z => inb (by omega)) (fun z => ?_)
  · have y0 : y = 0 := by rw [← nI_0] at z; exact (nI_eq (by omega) (by omega)).mp z
    rw [if_neg (by omega), if_neg (by omega)] at H
    exact s_S_keepCommit A2 hi hc hσ (r_X_finish_29 H)
  · have y0 : 0 < y := by
      rcases Nat.eq_zero_or_pos y with q | q
      · rw [q, nI_0] at z; exact absurd rfl z
      · exact q
    rw [if_pos y0, if_pos y0] at H
    rw [cl (by omega : y < 2 ^ 31), A2.put]
    simp only [hput_set0, hput_get0, hput_set, hput_get, Nat.reduceLeDiff]
    exact H
theorem op_x {h : sn_H} {σ : sn_V} {s : Nat} {st : Nat → sn_V} {n : Nat} {tx : Nat → Nat} (I : CI h σ s st n tx) {w : Nat} : (((hG h 2 3) >>> (nI w &&& 31)) &&& nI 1) = nI 1 ↔ bitP (σ 0 3) w := by rw [I.g0]
theorem s_X_errorOfBegin {h : sn_H} {σ : sn_V} {s : Nat} {st : Nat → sn_V} {n : Nat} {tx : Nat → Nat} {w : Nat} {Q : Option Value → sn_H → Prop} (C : CI h σ s st n tx) (hw : w < 8) (H1 : ¬ bitP (σ 0 3) w → Q (some (.int (nI 0))) h) (H2 : bitP (σ 0 3) w → Q (some (.int (-(nI 20003)))) h) : wpE 11 0 [some (.ref 1), some (.int (nI w))] [] h (0, 0) Q :=
  r_X_errorOfBegin_0 C.X.1 C.X.2.1 C.A.1.1 (fun q => absurd q (ar_n0 (by omega))) (fun _ q => absurd q (ar_nl hw (by omega))) (fun _ _ q => H1 (fun z => q ((op_x C).mpr z))) (fun _ _ q => H2 ((op_x C).mp q))
theorem m1_n0 : ∀ x : Nat, x < 20010 → 0 < x → ¬ (-(nI x) : Int32) = 0 := fun x h1 h2 z => by
  have q : - -(nI x) = -(0 : Int32) := congrArg (fun y => -y) z
  rw [Int32.neg_neg] at q
  have q2 : nI x = nI 0 := q.trans (by decide)
  have := (nI_eq (by omega) (by omega)).mp q2
  omega
theorem m1_neg : ¬ (0 : Int32) ≤ -(nI 20001) ∧ ¬ (0 : Int32) ≤ -(nI 20002) ∧ ¬ (0 : Int32) ≤ -(nI 20003) := by decide
theorem ar_ex {v : Int32} {n : Nat} (hn : n < 2 ^ 31) (h1 : ¬ v < 0) (h2 : ¬ nI n ≤ v) : ∃ j, j < n ∧ v = nI j := by
  rcases pk_ix v hn with z | z | z
  · exact absurd z h1
  · exact absurd z h2
  · exact z
theorem ar_ex' {v : Int32} {n : Nat} (hn : n + 1 < 2 ^ 31) (h1 : ¬ v < nI 0) (h2 : ¬ nI n < v) : ∃ j, j < n + 1 ∧ v = nI j :=
  ar_ex hn (by rw [← nI_0]; exact h1) (fun z => h2 ((ar_hi hn).mp z))
theorem s_X_errorOfRead {h : sn_H} {σ : sn_V} {s : Nat} {st : Nat → sn_V} {n : Nat} {tx : Nat → Nat} {v x : Int32} {Q : Option Value → sn_H → Prop} (C : CI h σ s st n tx) (H1 : ∀ w k, w < 8 → k < 12 → v = nI w → x = nI k → bitP (σ 0 3) w → Q (some (.int (nI 0))) h) (H2 : (¬ ∃ w k, w < 8 ∧ k < 12 ∧ v = nI w ∧ x = nI k ∧ bitP (σ 0 3) w) → Q (some (.int (-(nI 20001)))) h) :
    wpE 17 0 [some (.ref 1), some (.int v), some (.int x)] [] h (0, 0) Q := by
  by_cases ok : ∃ w k, w < 8 ∧ k < 12 ∧ v = nI w ∧ x = nI k ∧ bitP (σ 0 3) w
  · obtain ⟨w, k, hw, hk, rfl, rfl, o⟩ := ok
    exact r_X_errorOfRead_0 C.X.1 C.X.2.1 C.A.1.1 (fun q => absurd q (ar_n0 (by omega))) (fun _ q => absurd q (ar_nl hk (by omega))) (fun _ _ q => absurd q (ar_n0 (by omega))) (fun _ _ _ q => absurd q (ar_nl hw (by omega))) (fun _ _ _ _ q => absurd ((op_x C).mpr o) q) (fun _ _ _ _ _ => H1 w k hw hk rfl rfl o)
  · have H := H2 ok
    refine r_X_errorOfRead_0 C.X.1 C.X.2.1 C.A.1.1 (fun _ => H) (fun _ _ => H) (fun _ _ _ => H) (fun _ _ _ _ => H) (fun _ _ _ _ _ => H) (fun a b d e f => ?_)
    obtain ⟨k, hk, rfl⟩ := ar_ex (by omega) a b
    obtain ⟨w, hw, rfl⟩ := ar_ex (by omega) d e
    exact absurd ⟨w, k, hw, hk, rfl, rfl, (op_x C).mp f⟩ ok
theorem s_X_errorOfWrite {h : sn_H} {σ : sn_V} {s : Nat} {st : Nat → sn_V} {n : Nat} {tx : Nat → Nat} {v x y : Int32} {Q : Option Value → sn_H → Prop} (C : CI h σ s st n tx) (H1 : ∀ w k, w < 8 → k < 12 → v = nI w → x = nI k → bitP (σ 0 3) w → ¬ y < -(nI 999) → ¬ nI 999 < y → Q (some (.int (nI 0))) h)
    (H2 : (¬ ∃ w k, w < 8 ∧ k < 12 ∧ v = nI w ∧ x = nI k ∧ bitP (σ 0 3) w) → Q (some (.int (-(nI 20001)))) h) (H3 : (∃ w k, w < 8 ∧ k < 12 ∧ v = nI w ∧ x = nI k ∧ bitP (σ 0 3) w) → ¬ (¬ y < -(nI 999) ∧ ¬ nI 999 < y) → Q (some (.int (-(nI 20002)))) h) :
    wpE 22 0 [some (.ref 1), some (.int v), some (.int x), some (.int y), none] [] h (0, 0) Q := by
  refine r_X_errorOfWrite_0 C.X.1 (s_X_errorOfRead C (fun w k a b d e f => ?_) (fun q => ?_))
  · refine r_X_errorOfWrite_6 (fun _ z => H3 ⟨w, k, a, b, d, e, f⟩ (fun g => g.1 z)) (fun _ z z2 => H1 w k a b d e f z (Int32.not_lt.mpr z2)) (fun _ _ z => H3 ⟨w, k, a, b, d, e, f⟩ (fun g => z (Int32.not_lt.mp g.2))) (fun z => absurd nI_0 z)
  · have n0 := m1_n0 20001 (by omega) (by omega)
    exact r_X_errorOfWrite_6 (fun z => absurd z n0) (fun z => absurd z n0) (fun z => absurd z n0) (fun _ => H2 q)
def ofV (σ : sn_V) (c p w j : Nat) : Int32 := match j with
  | 0 => σ 6 w
  | 1 => σ 7 w
  | 2 => σ 8 w
  | _ => nI (wyC σ c w p)
theorem s_X_of {h : sn_H} {c p w j : Nat} {σ : sn_V} {s : Nat} {st : Nat → sn_V} {n : Nat} {tx : Nat → Nat} {Q : Option Value → sn_H → Prop} (C : CI h σ s st n tx) (hσ : σ 0 1 = nI c) (hc : c < 2 ^ 30) (hw : w < 8) (ho : bitP (σ 0 3) w) (h0 : σ 0 0 = nI p) (hp : p < 3) (hj : j < 4)
    (H : ∀ γ, Q (some (.int (ofV σ c p w j))) (hpg h 92 γ)) : wpE 62 0 [some (.ref 1), some (.int (nI w)), some (.int (nI j)), none] [] h (0, 0) Q := by
  have X := C.X
  have S := C.A.1
  obtain ⟨γ0, e0⟩ := grA h C.G
  have H0 := H γ0
  rw [← e0] at H0
  have cw : (nI w).toNatClampNeg = w := cl (by omega)
  have n0 := ar_n0 (w := w) (by omega)
  have n8 := ar_nl (w := w) (n := 8) (by omega) (by omega)
  have iw : vp_in (nI w) 24 := inb (by omega)
  have o := (op_x C (w := w)).mpr ho
  have e : j = 0 ∨ j = 1 ∨ j = 2 ∨ j = 3 := by omega
  rcases e with rfl | rfl | rfl | rfl
  · refine r_X_of_0 X.1 X.2.1 S.1 S.f9 S.k6 S.f10 S.k7 S.f11 S.k8 (fun q => absurd q n0) (fun _ q => absurd q n8) (fun _ _ q => absurd o q) (fun _ _ _ _ _ => iw) (fun _ _ _ _ _ => ?_) (fun _ _ _ _ _ => iw) (fun _ _ _ _ q => absurd q (by decide)) (fun _ _ _ _ _ => iw) (fun _ _ _ _ q => absurd q (by decide)) (fun _ _ _ _ q => absurd q (by decide)) (fun _ _ _ q => absurd q (by decide))
    rw [cw, C.A.2 6 (by decide) w]; exact H0
  · refine r_X_of_0 X.1 X.2.1 S.1 S.f9 S.k6 S.f10 S.k7 S.f11 S.k8 (fun q => absurd q n0) (fun _ q => absurd q n8) (fun _ _ q => absurd o q) (fun _ _ _ _ _ => iw) (fun _ _ _ _ q => absurd q (by decide)) (fun _ _ _ _ _ => iw) (fun _ _ _ _ _ => ?_) (fun _ _ _ _ _ => iw) (fun _ _ _ _ q => absurd q (by decide)) (fun _ _ _ _ q => absurd q (by decide)) (fun _ _ _ q => absurd q (by decide))
    rw [cw, C.A.2 7 (by decide) w]; exact H0
  · refine r_X_of_0 X.1 X.2.1 S.1 S.f9 S.k6 S.f10 S.k7 S.f11 S.k8 (fun q => absurd q n0) (fun _ q => absurd q n8) (fun _ _ q => absurd o q) (fun _ _ _ _ _ => iw) (fun _ _ _ _ q => absurd q (by decide)) (fun _ _ _ _ _ => iw) (fun _ _ _ _ q => absurd q (by decide)) (fun _ _ _ _ _ => iw) (fun _ _ _ _ _ => ?_) (fun _ _ _ _ q => absurd q (by decide)) (fun _ _ _ q => absurd q (by decide))
    rw [cw, C.A.2 8 (by decide) w]; exact H0
  · refine r_X_of_0 X.1 X.2.1 S.1 S.f9 S.k6 S.f10 S.k7 S.f11 S.k8 (fun q => absurd q n0) (fun _ q => absurd q n8) (fun _ _ q => absurd o q) (fun _ _ _ q => absurd rfl q) (fun _ _ _ q => absurd rfl q) (fun _ _ _ q => absurd rfl q) (fun _ _ _ q => absurd rfl q) (fun _ _ _ q => absurd rfl q) (fun _ _ _ q => absurd rfl q) (fun _ _ _ q => absurd rfl q) (fun _ _ _ _ => ?_)
    have g0 : hG h 2 0 = nI p := (C.g0 0).trans h0
    rw [g0]
    exact s_X_reason X C.G C.A (by omega) hσ hc hw hp (fun γ => r_X_of_33 (H γ))
/-- a kept commit's number -/
def kpt (c : Nat) (v : Int32) : Prop := ∃ k, 1 ≤ k ∧ k ≤ c ∧ c < k + 16 ∧ v = nI k
theorem kp_x {c : Nat} {v : Int32} (hc : c < 2 ^ 30) (h1 : ¬ v < nI 1) (h2 : ¬ nI c < v) (h3 : ¬ v ≤ nI c - nI 16) : kpt c v := by
  obtain ⟨j, hj, rfl⟩ := nI_of (x := v) (fun z => h1 (Int32.lt_trans z (by decide)))
  rw [nI_ltI (by omega) (by omega)] at h1 h2
  have e := pk_sub_toInt (a := c) (b := 16) hc (by omega)
  rw [Int32.le_iff_toInt_le, e, nI_toInt hj] at h3
  exact ⟨j, by omega, by omega, by omega, rfl⟩
theorem kp_c {c k : Nat} (hc : c < 2 ^ 30) (h1 : 1 ≤ k) (h2 : k ≤ c) (h3 : c < k + 16) : ¬ nI k < nI 1 ∧ ¬ nI c < nI k ∧ ¬ nI k ≤ nI c - nI 16 := by
  refine ⟨fun z => ?_, fun z => ?_, fun z => ?_⟩
  · rw [nI_ltI (by omega) (by omega)] at z; omega
  · rw [nI_ltI (by omega) (by omega)] at z; omega
  · have e := pk_sub_toInt (a := c) (b := 16) hc (by omega)
    rw [Int32.le_iff_toInt_le, e, nI_toInt (by omega)] at z
    omega
theorem row_v {k : Nat} (h1 : 1 ≤ k) (hk : k < 2 ^ 30) : nI 8 + ((nI k - nI 1) &&& nI 15) = nI (8 + (k - 1) % 16) := by
  rw [pk_sub h1, show (nI 15 : Int32) = nI (2 ^ 4 - 1) from rfl, pk_andN (by omega) 4 (by decide), nI_add]
def ocV (σ : sn_V) (k j : Nat) : Int32 := match j with
  | 0 => σ 6 (8 + (k - 1) % 16)
  | 1 => σ 7 (8 + (k - 1) % 16)
  | _ => σ 8 (8 + (k - 1) % 16)
theorem s_X_ofCommit {h : sn_H} {c k j : Nat} {σ : sn_V} {s : Nat} {st : Nat → sn_V} {n : Nat} {tx : Nat → Nat} {Q : Option Value → sn_H → Prop} (C : CI h σ s st n tx) (hσ : σ 0 1 = nI c) (hc : c < 2 ^ 30) (h1 : 1 ≤ k) (h2 : k ≤ c) (h3 : c < k + 16) (hj : j < 3)
    (H : Q (some (.int (ocV σ k j))) h) : wpE 68 0 [some (.ref 1), some (.int (nI k)), some (.int (nI j))] [] h (0, 0) Q := by
  have X := C.X
  have S := C.A.1
  have g1 : hG h 2 1 = nI c := (C.g0 1).trans hσ
  obtain ⟨a1, a2, a3⟩ := kp_c hc h1 h2 h3
  have rv := row_v h1 (by omega)
  have cr : (nI (8 + (k - 1) % 16)).toNatClampNeg = 8 + (k - 1) % 16 := cl (by omega)
  have ir : vp_in (nI (8 + (k - 1) % 16)) 24 := inb (by omega)
  have e : j = 0 ∨ j = 1 ∨ j = 2 := by omega
  rcases e with rfl | rfl | rfl <;> refine r_X_ofCommit_0 X.1 X.2.1 S.1 S.f9 S.k6 S.f10 S.k7 S.f11 S.k8 (fun q => absurd q a1) (fun _ q => absurd (by rw [← g1]; exact q) a2) (fun _ _ q => absurd (by rw [← g1]; exact q) a3) (fun _ _ _ _ => by rw [rv]; exact ir) (fun _ _ _ q => ?_) (fun _ _ _ _ => by rw [rv]; exact ir) (fun _ _ _ q => ?_) (fun _ _ _ _ => by rw [rv]; exact ir) (fun _ _ _ q => ?_) (fun _ _ _ q => absurd q (by decide)) <;> first | exact absurd q (by decide) | skip
  · rw [rv, cr, C.A.2 6 (by decide)]; exact H
  · rw [rv, cr, C.A.2 7 (by decide)]; exact H
  · rw [rv, cr, C.A.2 8 (by decide)]; exact H
/-- constraints -/
def hdB (σ : sn_V) (q : Nat) : Bool := decide (¬ sumK (σ 2 q) (σ 4) 12 < σ 3 q)
def hfB (σ : sn_V) (w q : Nat) : Bool := decide (¬ sumK (σ 2 q) (fun k => σ 10 (w * 12 + k)) 12 < σ 3 q)
theorem s_S_held {h : sn_H} {b q : Nat} {σ : sn_V} {Q : Option Value → sn_H → Prop} (A : StA h b σ) (hq : q < 3) (H : Q (some (.int (bi (hdB σ q)))) h) : wpE 47 0 [some (.ref b), some (.ref (b + 4)), some (.int (nI 0)), some (.int (nI q)), none, none] [] h (0, 0) Q := by
  have e : sumK (σ 2 q) (fun k => hG h (b + 4) (0 + k)) 12 = sumK (σ 2 q) (σ 4) 12 := sumK_cg 12 (fun k _ => by show hG h (b + 4) (0 + k) = σ 4 k; rw [Nat.zero_add, A.2 4 (by decide)])
  unfold hdB at H
  refine s_S_constraintIsMet (fr := 0) (n0 := 12) A A.1.k4 (by omega) (by omega) hq (fun z => ?_) (fun z => ?_)
  · rw [e] at z
    rw [decide_eq_false (fun y => y z)] at H
    exact H
  · rw [e] at z
    rw [decide_eq_true z] at H
    exact H
theorem s_X_holds {h : sn_H} {q : Nat} {σ : sn_V} {s : Nat} {st : Nat → sn_V} {n : Nat} {tx : Nat → Nat} {Q : Option Value → sn_H → Prop} (C : CI h σ s st n tx) (hq : q < 3) (H : Q (some (.int (bi (hdB σ q)))) h) : wpE 74 0 [some (.ref 1), some (.int (nI q))] [] h (0, 0) Q := by
  refine r_X_holds_0 C.X.1 C.X.2.1 C.A.1.1 C.A.1.f7 (fun z => absurd z (ar_n0 (by omega))) (fun _ z => absurd z (ar_nl hq (by omega))) (fun _ _ => s_S_held C.A hq ?_)
  cases hb : hdB σ q with
  | true => rw [hb] at H; exact r_X_holds_27 (fun z => absurd z bi_t) (fun _ => H)
  | false => rw [hb] at H; exact r_X_holds_27 (fun _ => H) (fun z => absurd bi_f z)
theorem s_X_holdsFor {h : sn_H} {q w : Nat} {σ : sn_V} {s : Nat} {st : Nat → sn_V} {n : Nat} {tx : Nat → Nat} {Q : Option Value → sn_H → Prop} (C : CI h σ s st n tx) (hq : q < 3) (hw : w < 8) (ho : bitP (σ 0 3) w) (H : Q (some (.int (bi (hfB σ w q)))) h) : wpE 65 0 [some (.ref 1), some (.int (nI w)), some (.int (nI q)), none] [] h (0, 0) Q := by
  refine r_X_holdsFor_0 C.X.1 C.X.2.1 C.A.1.1 C.A.1.f13 (fun z => absurd z (ar_n0 (by omega))) (fun _ z => absurd z (ar_nl hw (by omega))) (fun _ _ z => absurd ((op_x C).mpr ho) z) (fun _ _ _ z => absurd z (ar_n0 (by omega))) (fun _ _ _ _ z => absurd z (ar_nl hq (by omega))) (fun _ _ _ _ _ => ?_)
  rw [pk_mul]
  have e : sumK (σ 2 q) (fun k => hG h (2 + 10) (w * 12 + k)) 12 = sumK (σ 2 q) (fun k => σ 10 (w * 12 + k)) 12 := sumK_cg 12 (fun k _ => C.A.2 10 (by decide) _)
  unfold hfB at H
  refine s_S_constraintIsMet (fr := w * 12) (n0 := 96) C.A C.A.1.k10 (by omega) (by omega) hq (fun z => ?_) (fun z => ?_)
  · rw [e] at z
    rw [decide_eq_false (fun y => y z)] at H
    exact r_X_holdsFor_42 (fun _ => H) (fun y => absurd bi_f y)
  · rw [e] at z
    rw [decide_eq_true z] at H
    exact r_X_holdsFor_42 (fun y => absurd y bi_t) (fun _ => H)
def rcV (σ : sn_V) (c w t : Nat) : Int32 := if t < rgQ (gRo σ c w) (min 16 c + 1) then nI (nrJ (min 16 c) (c + 1) (nnC c (min 16 c)) (rgN (gRo σ c w) (dst (gRo σ c w) (min 16 c + 1) (min 16 c) (min 16 c)) (min 16 c + 1) (rgQ (gRo σ c w) (min 16 c + 1)) (t + 1))) else -(nI 20006)
theorem s_X_ringOf {h : sn_H} {c w i : Nat} {σ : sn_V} {s : Nat} {st : Nat → sn_V} {n : Nat} {tx : Nat → Nat} {Q : Option Value → sn_H → Prop} (C : CI h σ s st n tx) (hσ : σ 0 1 = nI c) (hc : c < 2 ^ 30) (hw : w < 8) (ho : bitP (σ 0 3) w) (hi : 1 ≤ i) (hi2 : i < 2 ^ 31)
    (H : ∀ γ, Q (some (.int (rcV σ c w (i - 1)))) (hpg h 92 γ)) : wpE 66 0 [some (.ref 1), some (.int (nI w)), some (.int (nI i)), none] [] h (0, 0) Q := by
  have X := C.X
  have S := C.G
  have A := C.A
  have hn : min 16 c ≤ 16 := Nat.min_le_left _ _
  have hb' : 2 + 10 < 92 ∨ 92 + 8 < 2 := Or.inl (by omega)
  obtain ⟨γ0, e⟩ := grA h S
  unfold rcV at H
  refine r_X_ringOf_0 X.1 X.2.1 A.1.1 X.2.2.2.2.1 S.1 (fun q => absurd q (ar_n0 (by omega))) (fun _ q => absurd q (ar_nl hw (by omega))) (fun _ _ q => absurd ((op_x C).mpr ho) q) (fun _ _ _ _ => ?_) (fun _ _ _ q => absurd (nI_le hi hi2) q)
  rw [e]
  refine s_G_load S A hb' hσ hc (fun γ1 G1 => ?_)
  refine r_X_ringOf_32 X.1 X.2.2.2.2.1 X.2.1 S.1 ?_
  refine s_G_join S A hb' hn (fun x _ => by unfold nrC; omega) (by omega) hσ G1 (fun γ2 G2 => ?_)
  refine r_X_ringOf_44 X.1 X.2.2.2.2.1 S.1 ?_
  refine s_G_findRing (n := min 16 c + 1) (R := gRo σ c w) (nn := nrJ (min 16 c) (c + 1) (nnC c (min 16 c))) S (by omega) (by omega) G2.1 (fun x j hx hj => ((G2.2 x hx).2.2.1 j (by omega)).trans gR_iff.symm) (fun j hj => (G2.2 j hj).2.1) (fun γ3 f1 f2 f3 => ?_)
  have q16 : rgQ (gRo σ c w) (min 16 c + 1) ≤ 17 := by
    unfold rgQ
    split
    · omega
    · exact nst_le _
  have e9 : hG (hpg h 92 γ3) 92 9 = nI (rgQ (gRo σ c w) (min 16 c + 1)) := by rw [hpg_get0]; exact f2
  have e1 : nI i - nI 1 = nI (i - 1) := pk_sub hi
  have H := H γ3
  refine r_X_ringOf_51 X.1 X.2.2.2.2.1 S.1 S.f8.1 S.f8.2 (fun q => ?_) (fun _ q => ?_) (fun _ q => ?_) (fun _ q => ?_)
  · rw [e1] at q; exact absurd q (ar_n0 (by omega))
  · rw [e1, e9, nI_leI (by omega) (by omega)] at q
    rw [if_neg (by omega)] at H
    exact H
  · rw [e1, e9, nI_leI (by omega) (by omega)] at q
    rw [e1]
    exact inb (by omega)
  · rw [e1, e9, nI_leI (by omega) (by omega)] at q
    rw [if_pos (by omega)] at H
    rw [e1, cl (by omega), hpg_get (by decide), f3 (i - 1) (by omega)]
    exact H
/-- the graph of the kept commits -/
def gRk (σ : sn_V) (c : Nat) : Nat → Nat → Bool := gR σ (min 16 c) (nrC c (min 16 c)) (nnC c (min 16 c))
def gOk (σ : sn_V) (c : Nat) : Nat → Nat → Bool := gO σ (min 16 c) (nrC c (min 16 c)) (nnC c (min 16 c))
/-- the order -/
def orV (R : Nat → Nat → Bool) (c q i : Nat) : Int32 := if i < q then nI (nnC c (min 16 c) (odN R (min 16 c) i)) else -(nI 20006)
/-- the lowest policy that refuses -/
def rfV (σ : sn_V) (c w : Nat) : Nat → Nat → Int32
  | 0, _ => -(nI 20006)
  | m + 1, p => if wyC σ c w p = 0 then rfV σ c w m (p + 1) else nI p
theorem s_X_refusedLoop {h : sn_H} {c w : Nat} {σ : sn_V} {Q : Option Value → sn_H → Prop} (X : XS h) (S : GrS h 92) (A : StA h 2 σ) (hσ : σ 0 1 = nI c) (hc : c < 2 ^ 30) (hw : w < 8) : ∀ m p γ, p + m = 3 → (∀ γ, Q (some (.int (rfV σ c w m p))) (hpg h 92 γ)) → wpE 64 14 [some (.ref 1), some (.int (nI w)), none, some (.int (nI p))] [] (hpg h 92 γ) (0, 0) Q := by
  intro m
  induction m with
  | zero =>
    intro p γ hp H
    refine r_X_refusedBy_14 X.1 X.2.1 (fun _ => H γ) (fun z => absurd (nI_lt (by omega) (by omega)) z)
  | succ m ih =>
    intro p γ hp H
    refine r_X_refusedBy_14 X.1 X.2.1 (fun z => absurd z (nI_nlt (by omega) (by omega))) (fun _ => ?_)
    refine s_X_reason (h := hpg h 92 γ) X S (hpg_St A (Or.inl (by omega))) (by omega) hσ hc hw (by omega) (fun γ' => ?_)
    rw [hpg_hpg]
    have w4 := wyC_lt σ c w p
    refine r_X_refusedBy_29 (fun z => ?_) (fun z => ?_)
    · have z0 : wyC σ c w p = 0 := by rw [← nI_0] at z; exact (nI_eq (by omega) (by omega)).mp z
      rw [nI_s]
      refine ih (p + 1) γ' (by omega) (fun γ2 => ?_)
      have hh := H γ2
      unfold rfV at hh
      rw [if_pos z0] at hh
      exact hh
    · have hh := H γ'
      unfold rfV at hh
      rw [if_neg (fun q => z (by rw [q, nI_0]))] at hh
      exact hh
def faS (σ : sn_V) (c p : Nat) : Nat → Nat × sn_V
  | 0 => (c, σ)
  | i + 1 => if bitP ((faS σ c p i).2 0 3) i then (cmC (faS σ c p i).2 (faS σ c p i).1 i p, cmS (faS σ c p i).2 (faS σ c p i).1 i p) else faS σ c p i
theorem faS_s {σ : sn_V} {c p i : Nat} : faS σ c p (i + 1) = if bitP ((faS σ c p i).2 0 3) i then (cmC (faS σ c p i).2 (faS σ c p i).1 i p, cmS (faS σ c p i).2 (faS σ c p i).1 i p) else faS σ c p i := rfl
theorem cm_00 {σ : sn_V} {c i p : Nat} : cmS σ c i p 0 0 = σ 0 0 := by
  unfold cmS
  split
  · unfold fRef fFree; rw [up_n (by omega), up_n (by omega)]
  · unfold fKeep
    rw [fKC_n (by omega) (by omega)]
    unfold fKeep1 fKeep0
    rw [cpV_n (by omega), up_n (by omega), up_n (by omega), up_n (by omega), up_n (by omega), up_n (by omega)]
theorem cm_01 {σ : sn_V} {c i p : Nat} (h : σ 0 1 = nI c) : cmS σ c i p 0 1 = nI (cmC σ c i p) := by
  unfold cmS cmC
  split
  · unfold fRef fFree; rw [up_n (by omega), up_n (by omega)]; exact h
  · unfold fKeep
    rw [fKC_n (by omega) (by omega)]
    unfold fKeep1 fKeep0
    rw [cpV_n (by omega), up_n (by omega), up_n (by omega), up_n (by omega), up_s, h, nI_s]
theorem fa_inv {σ : sn_V} {c p : Nat} (Z : StZ σ) (h0 : σ 0 0 = nI p) (h1 : σ 0 1 = nI c) : ∀ i, StZ (faS σ c p i).2 ∧ (faS σ c p i).2 0 0 = nI p ∧ (faS σ c p i).2 0 1 = nI (faS σ c p i).1 ∧ (faS σ c p i).1 ≤ c + i := by
  intro i
  induction i with
  | zero => exact ⟨Z, h0, h1, Nat.le_refl _⟩
  | succ i ih =>
    obtain ⟨a, b, d, e⟩ := ih
    rw [faS_s]
    split
    · refine ⟨Z_cm a, cm_00.trans b, cm_01 d, ?_⟩
      have := @cmC_le (faS σ c p i).2 (faS σ c p i).1 i p
      show cmC (faS σ c p i).2 (faS σ c p i).1 i p ≤ _
      omega
    · exact ⟨a, b, d, by omega⟩
theorem bi_add (k : Nat) (b : Bool) : nI k + bi b = nI (k + b01 b) := by
  cases b
  · exact add_n0 _
  · exact nI_s k
theorem s_X_ifAll {h : sn_H} {c p : Nat} {σ : sn_V} {s : Nat} {st : Nat → sn_V} {n : Nat} {tx : Nat → Nat} {Q : Option Value → sn_H → Prop} (C : CI h σ s st n tx) (hσ : σ 0 1 = nI c) (hc : c + 8 < 2 ^ 30) (h0 : σ 0 0 = nI p) (hp : p < 3)
    (H : ∀ h', frm 1 102 h h' → CI h' σ s st n tx → Q (some (.int (nI (smN (fun q => b01 (hdB (faS σ c p 8).2 q)) 3 0)))) h') : wpE 46 0 [some (.ref 1), none, none] [] h (0, 0) Q := by
  have X := C.X
  obtain ⟨φ0, p1, p2⟩ := C.F
  refine r_X_ifAllCommitted_0 X.1 X.2.2.1 X.2.1 p1.1.1 (s_S_copyFrom p1 C.A (by omega) p2 C.Z (r_X_ifAllCommitted_11 ?_))
  -- the constraints
  have held : ∀ (h' : sn_H), frm 1 102 h h' → CI h' σ s st n tx → StA h' 13 (faS σ c p 8).2 → ∀ r i, i + r = 3 → wpE 46 50 [some (.ref 1), some (.int (nI (smN (fun q => b01 (hdB (faS σ c p 8).2 q)) i 0))), some (.int (nI i))] [] h' (0, 0) Q := by
    intro h' f C' A' r
    induction r with
    | zero =>
      intro i hi
      have e : i = 3 := hi
      subst e
      exact r_X_ifAllCommitted_50 C'.X.1 C'.X.2.2.1 A'.1.1 A'.1.f7 (fun _ => H h' f C') (fun z => absurd (Int32.le_refl _) z)
    | succ r ih =>
      intro i hi
      have v := ih (i + 1) (by omega)
      rw [smN_last, Nat.zero_add] at v
      refine r_X_ifAllCommitted_50 C'.X.1 C'.X.2.2.1 A'.1.1 A'.1.f7 (fun z => absurd z (nI_ge (by omega) (by omega))) (fun _ => s_S_held A' (by omega) ?_)
      cases hb : hdB (faS σ c p 8).2 i with
      | true =>
        rw [hb] at v
        refine r_X_ifAllCommitted_71 (fun z => absurd z bi_t) (fun _ => ?_)
        rw [nI_s, nI_s]
        exact v
      | false =>
        rw [hb] at v
        refine r_X_ifAllCommitted_71 (fun _ => ?_) (fun z => absurd bi_f z)
        rw [nI_s]
        exact v
  suffices ∀ r i (h' : sn_H), i + r = 8 → frm 1 102 h h' → CI h' σ s st n tx → StA h' 13 (faS σ c p i).2 → wpE 46 13 [some (.ref 1), some (.int (nI i)), none] [] h' (0, 0) Q from
    this 8 0 _ (Nat.zero_add _) (C.fo C.Z).2 (C.fo C.Z).1 (hput_A p1.1)
  intro r
  induction r with
  | zero =>
    intro i h' hi f C' A'
    have e : i = 8 := hi
    subst e
    refine r_X_ifAllCommitted_13 C'.X.1 C'.X.2.2.1 A'.1.1 (fun _ => held h' f C' A' 3 0 (Nat.zero_add _)) (fun z => absurd (Int32.le_refl _) z) (fun z => absurd (Int32.le_refl _) z)
  | succ r ih =>
    intro i h' hi f C' A'
    obtain ⟨i1, i2, i3, i4⟩ := fa_inv C.Z h0 hσ i
    have g3 : hG h' 13 3 = (faS σ c p i).2 0 3 := A'.2 0 (by decide) 3
    refine r_X_ifAllCommitted_13 C'.X.1 C'.X.2.2.1 A'.1.1 (fun z => absurd z (nI_ge (by omega) (by omega))) (fun _ z => ?_) (fun _ z => ?_)
    · rw [g3] at z
      rw [nI_s]
      refine ih (i + 1) h' (by omega) f C' ?_
      rw [faS_s, if_neg z]
      exact A'
    · rw [g3] at z
      refine s_X_finish C'.X C'.G A' (by omega) i3 (by omega) (by omega) hp i2 (fun γ => r_X_ifAllCommitted_39 ?_)
      obtain ⟨C1, f1⟩ := C'.gr (γ := γ)
      obtain ⟨C2, f2⟩ := C1.fo (Z_cm (c := (faS σ c p i).1) (i := i) (p := p) i1)
      rw [nI_s]
      refine ih (i + 1) _ (by omega) ((f.tr f1).tr f2) C2 ?_
      rw [faS_s, if_pos z]
      exact hput_A A'.1
