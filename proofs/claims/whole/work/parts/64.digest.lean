/-! ===== digest: the sum, and the class's way ===== -/
def mx (a : Int64) (v : Int32) : Int64 := (lN 31 * a) + v.toInt64
def dgF (f : Nat → Int32) : Nat → Nat → Int64 → Int64
  | 0, _, a => a
  | m + 1, i, a => dgF f m (i + 1) (mx a (f i))
def dg2 (f g : Nat → Int32) : Nat → Nat → Int64 → Int64
  | 0, _, a => a
  | m + 1, i, a => dg2 f g m (i + 1) (mx (mx a (f i)) (g i))
theorem dgF_cg {f g : Nat → Int32} : ∀ m i a, (∀ j, i ≤ j → j < i + m → f j = g j) → dgF f m i a = dgF g m i a := by
  intro m
  induction m with
  | zero => intro i a _; rfl
  | succ m ih =>
    intro i a h
    show dgF f m (i + 1) (mx a (f i)) = dgF g m (i + 1) (mx a (g i))
    rw [h i (Nat.le_refl _) (by omega)]
    exact ih (i + 1) _ (fun j x y => h j (by omega) (by omega))
def dgO (σ : sn_V) (c p : Nat) : Nat → Nat → Int64 → Int64
  | 0, _, a => a
  | m + 1, i, a => dgO σ c p m (i + 1) (if bitP (σ 0 3) i then dgF (fun q => bi (hfB σ i q)) 3 0 (dgF (ofV σ c p i) 4 0 (mx a (nI i))) else a)
def dgK (σ : sn_V) (f : Nat) : Nat → Nat → Int64 → Int64
  | 0, _, a => a
  | m + 1, i, a => dgK σ f m (i + 1) (dgF (ocV σ (f + i)) 3 0 (mx a (nI (f + i))))
def dgPi (E : Nat → Nat → Int32) (x : Nat) : Nat → Nat → Int64 → Int64
  | 0, _, a => a
  | m + 1, i, a => dgPi E x m (i + 1) (mx (mx a (E x i)) (E i x))
def dgPo (E : Nat → Nat → Int32) (n : Nat) : Nat → Nat → Int64 → Int64
  | 0, _, a => a
  | m + 1, i, a => dgPo E n m (i + 1) (dgPi E i (n - (i + 1)) (i + 1) a)
def edK (σ : sn_V) (c : Nat) : Nat → Nat → Int32 := ed σ (nrC c (min 16 c)) (nnC c (min 16 c))
def dgG (σ : sn_V) (c q : Nat) (a : Int64) : Int64 := dgF (orV (gRk σ c) c q) 16 0 (mx (dgPo (edK σ c) (min 16 c) (min 16 c) 0 a) (nI (rcN (gRk σ c) (min 16 c))))
def dgV (σ : sn_V) (c p q : Nat) : Int64 :=
  dgF (fun q => bi (hdB σ q)) 3 0 (dgG σ c q (dgK σ (c - min 16 c + 1) (min 16 c) 0 (dgO σ c p 8 0 (dg2 (σ 4) (σ 5) 12 0 (dgF (cnV σ c) 8 0 (lN 368))))))
/-- how many of the order are told -/
def oqP (σ : sn_V) (c q : Nat) : Prop := (q = min 16 c ∧ ∀ t, t < min 16 c → odN (gRk σ c) (min 16 c) t < min 16 c) ∨ (q = 0 ∧ ∃ t, t < min 16 c ∧ (∀ u, u < t → odN (gRk σ c) (min 16 c) u < min 16 c) ∧ odN (gRk σ c) (min 16 c) t = min 16 c)
theorem s_X_dgOpen {h0 : sn_H} {c p : Nat} {σ : sn_V} {s : Nat} {st : Nat → sn_V} {n : Nat} {tx : Nat → Nat} {Q : Option Value → sn_H → Prop} (hσ : σ 0 1 = nI c) (hc : c < 2 ^ 30) (hp0 : σ 0 0 = nI p) (hp : p < 3) :
    ∀ (r i : Nat) (a : Int64) (h : sn_H), i + r = 8 → frm 1 102 h0 h → CI h σ s st n tx → (∀ h', frm 1 102 h0 h' → CI h' σ s st n tx → Q (some (.long (dgO σ c p r i a))) h') → wpE 90 5 [some (.ref 1), none, none, some (.long a), none, some (.int (nI i)), none] [] h (0, 0) Q := by
  intro r
  induction r with
  | zero =>
    intro i a h hi f C K
    have e : i = 8 := hi
    subst e
    exact r_X_withOpenTransactions_5 C.X.1 C.X.2.1 C.A.1.1 (fun _ => K h f C) (fun z => absurd (Int32.le_refl _) z) (fun z => absurd (Int32.le_refl _) z)
  | succ r ih =>
    intro i a h hi f C K
    have K' : ∀ h', frm 1 102 h0 h' → CI h' σ s st n tx → Q (some (.long (dgO σ c p r (i + 1) (if bitP (σ 0 3) i then dgF (fun q => bi (hfB σ i q)) 3 0 (dgF (ofV σ c p i) 4 0 (mx a (nI i))) else a)))) h' := K
    refine r_X_withOpenTransactions_5 C.X.1 C.X.2.1 C.A.1.1 (fun z => absurd z (nI_ge (by omega) (by omega))) (fun _ z => ?_) (fun _ z => ?_)
    · have no : ¬ bitP (σ 0 3) i := fun q => z ((op_x C).mpr q)
      rw [if_neg no] at K'
      rw [nI_s]
      exact ih (i + 1) a h (by omega) f C K'
    · have o := (op_x C).mp z
      rw [if_pos o] at K'
      -- the constraints
      have lasts : ∀ (r2 j : Nat) (b : Int64) (h1 : sn_H), j + r2 = 3 → frm 1 102 h0 h1 → CI h1 σ s st n tx → dgF (fun q => bi (hfB σ i q)) 3 0 (dgF (ofV σ c p i) 4 0 (mx a (nI i))) = dgF (fun q => bi (hfB σ i q)) r2 j b → wpE 90 67 [some (.ref 1), none, none, some (.long b), none, some (.int (nI i)), some (.int (nI j))] [] h1 (0, 0) Q := by
        intro r2
        induction r2 with
        | zero =>
          intro j b h1 hj f1 C1 e
          have ej : j = 3 := hj
          subst ej
          refine r_X_withOpenTransactions_67 C1.X.1 (fun _ => ?_) (fun y => absurd (Int32.le_refl _) y)
          rw [nI_s]
          rw [e] at K'
          exact ih (i + 1) _ h1 (by omega) f1 C1 K'
        | succ r2 ih2 =>
          intro j b h1 hj f1 C1 e
          refine r_X_withOpenTransactions_67 C1.X.1 (fun y => absurd y (nI_ge (by omega) (by omega))) (fun _ => ?_)
          refine s_X_holdsFor C1 (by omega) (by omega) o (r_X_withOpenTransactions_82 ?_)
          rw [nI_s]
          exact ih2 (j + 1) _ h1 (by omega) f1 C1 e
      suffices ∀ (r1 j : Nat) (b : Int64) (h1 : sn_H), j + r1 = 4 → frm 1 102 h0 h1 → CI h1 σ s st n tx → dgF (ofV σ c p i) 4 0 (mx a (nI i)) = dgF (ofV σ c p i) r1 j b → wpE 90 38 [some (.ref 1), none, none, some (.long b), none, some (.int (nI i)), some (.int (nI j))] [] h1 (0, 0) Q from
        this 4 0 _ h (Nat.zero_add _) f C rfl
      intro r1
      induction r1 with
      | zero =>
        intro j b h1 hj f1 C1 e
        have ej : j = 4 := hj
        subst ej
        refine r_X_withOpenTransactions_38 C1.X.1 (fun _ => ?_) (fun y => absurd (Int32.le_refl _) y)
        exact lasts 3 0 b h1 (Nat.zero_add _) f1 C1 (by rw [e]; rfl)
      | succ r1 ih1 =>
        intro j b h1 hj f1 C1 e
        refine r_X_withOpenTransactions_38 C1.X.1 (fun y => absurd y (nI_ge (by omega) (by omega))) (fun _ => ?_)
        refine s_X_of C1 hσ hc (by omega) o hp0 hp (by omega) (fun γ => r_X_withOpenTransactions_53 ?_)
        obtain ⟨C2, f2⟩ := C1.gr (γ := γ)
        rw [nI_s]
        exact ih1 (j + 1) _ _ (by omega) (f1.tr f2) C2 e
theorem s_X_dgKept {h : sn_H} {c : Nat} {σ : sn_V} {s : Nat} {st : Nat → sn_V} {n : Nat} {tx : Nat → Nat} {a0 : Int64} {Q : Option Value → sn_H → Prop} (C : CI h σ s st n tx) (hσ : σ 0 1 = nI c) (hc : c < 2 ^ 30)
    (K : Q (some (.long (dgK σ (c - min 16 c + 1) (min 16 c) 0 a0))) h) : wpE 91 0 [some (.ref 1), some (.long a0), none, none, none, none, none, none, none] [] h (0, 0) Q := by
  have hn : min 16 c ≤ 16 := Nat.min_le_left _ _
  have hn2 : min 16 c ≤ c := Nat.min_le_right _ _
  have g1 : hG h 2 1 = nI c := (C.g0 1).trans hσ
  refine r_X_withKeptCommits_0 C.X.1 C.X.2.1 C.A.1.1 ?_
  rw [g1, min16 hc, pk_sub hn2, nI_s]
  suffices ∀ (r i : Nat) (a : Int64), i + r = min 16 c → dgK σ (c - min 16 c + 1) (min 16 c) 0 a0 = dgK σ (c - min 16 c + 1) r i a → wpE 91 28 [some (.ref 1), none, none, some (.long a), none, some (.int (nI (min 16 c))), some (.int (nI (c - min 16 c + 1))), some (.int (nI i)), none] [] h (0, 0) Q from this (min 16 c) 0 a0 (Nat.zero_add _) rfl
  intro r
  induction r with
  | zero =>
    intro i a hi e
    have ei : i = min 16 c := hi
    rw [e] at K
    rw [ei]
    exact r_X_withKeptCommits_28 (fun _ => K) (fun z => absurd (Int32.le_refl _) z)
  | succ r ih =>
    intro i a hi e
    refine r_X_withKeptCommits_28 (fun z => absurd z (nI_ge (by omega) (by omega))) (fun _ => ?_)
    rw [nI_add]
    suffices ∀ (r1 j : Nat) (b : Int64), j + r1 = 3 → dgF (ocV σ (c - min 16 c + 1 + i)) 3 0 (mx a (nI (c - min 16 c + 1 + i))) = dgF (ocV σ (c - min 16 c + 1 + i)) r1 j b → wpE 91 49 [some (.ref 1), none, none, some (.long b), none, some (.int (nI (min 16 c))), some (.int (nI (c - min 16 c + 1))), some (.int (nI i)), some (.int (nI j))] [] h (0, 0) Q from this 3 0 _ (Nat.zero_add _) rfl
    intro r1
    induction r1 with
    | zero =>
      intro j b hj e2
      have ej : j = 3 := hj
      subst ej
      refine r_X_withKeptCommits_49 C.X.1 (fun _ => ?_) (fun y => absurd (Int32.le_refl _) y)
      rw [nI_s]
      refine ih (i + 1) b (by omega) (e.trans ?_)
      show dgK σ (c - min 16 c + 1) r (i + 1) (dgF (ocV σ (c - min 16 c + 1 + i)) 3 0 (mx a (nI (c - min 16 c + 1 + i)))) = _
      rw [e2]
      rfl
    | succ r1 ih1 =>
      intro j b hj e2
      refine r_X_withKeptCommits_49 C.X.1 (fun y => absurd y (nI_ge (by omega) (by omega))) (fun _ => ?_)
      rw [nI_add]
      refine s_X_ofCommit C hσ hc (by omega) (by omega) (by omega) (by omega) (r_X_withKeptCommits_67 ?_)
      rw [nI_s]
      exact ih1 (j + 1) _ (by omega) e2
theorem s_X_dgGraph {h : sn_H} {c : Nat} {σ : sn_V} {s : Nat} {st : Nat → sn_V} {n : Nat} {tx : Nat → Nat} {a0 : Int64} {Q : Option Value → sn_H → Prop} (C : CI h σ s st n tx) (hσ : σ 0 1 = nI c) (hc : c < 2 ^ 30)
    (K : ∀ γ q, oqP σ c q → Q (some (.long (dgG σ c q a0))) (hpg h 92 γ)) : wpE 92 0 [some (.ref 1), some (.long a0), none, none, none, none, none] [] h (0, 0) Q := by
  have X := C.X
  have S := C.G
  have hn : min 16 c ≤ 16 := Nat.min_le_left _ _
  obtain ⟨γ0, e0⟩ := grA h S
  refine r_X_withGraph_0 X.1 X.2.2.2.2.1 X.2.1 S.1 ?_
  rw [e0]
  refine s_G_load S C.A (Or.inl (by omega)) hσ hc (fun γ1 G1 => ?_)
  refine r_X_withGraph_13 ?_
  have g0 : hG (hpg h 92 γ1) 92 0 = nI (min 16 c) := by rw [hpg_get0]; exact G1.1
  unfold dgG at K
  -- the order
  have last : ∀ b, dgPo (edK σ c) (min 16 c) (min 16 c) 0 a0 = b → wpE 57 0 [some (.ref 92), none, none] [] (hpg h 92 γ1) (0, 0) (fun r hh => wpE 92 110 [some (.ref 1), none, none, none, none, none, none] (r.toList ++ [.long b]) hh (0, 0) Q) := by
    intro b eb
    rw [eb] at K
    refine s_G_countNodesInRings (R := gRk σ c) S (by omega) G1.1 (fun x j hx hj => ((G1.2 x hx).2.2.1 j hj).trans gR_iff.symm) (fun γ2 f => ?_)
    refine r_X_withGraph_110 X.1 X.2.2.2.2.1 S.1 ?_
    refine s_G_findOrder (n := min 16 c) (R := gRk σ c) (nn := nnC c (min 16 c)) S (by omega) (by rw [f 0 0 (by omega)]; exact G1.1) (fun x j hx hj => by rw [f 4 x (by omega)]; exact ((G1.2 x hx).2.2.1 j hj).trans gR_iff.symm) (fun j hj => by rw [f 2 j (by omega)]; exact (G1.2 j hj).2.1) (fun γ3 q f1 f2 f3 f4 => ?_)
    have K := K γ3 q f3
    have q16 : q ≤ 16 := by rcases f3 with z | z <;> omega
    have e9 : hG (hpg h 92 γ3) 92 9 = nI q := by rw [hpg_get0]; exact f2
    refine r_X_withGraph_122 ?_
    show wpE 92 125 [some (.ref 1), none, none, some (.long (mx b (nI (rcN (gRk σ c) (min 16 c))))), none, some (.int (nI 0)), none] [] (hpg h 92 γ3) (0, 0) Q
    generalize mx b (nI (rcN (gRk σ c) (min 16 c))) = b1 at K
    suffices ∀ (r i : Nat) (a : Int64), i + r = 16 → dgF (orV (gRk σ c) c q) 16 0 b1 = dgF (orV (gRk σ c) c q) r i a → wpE 92 125 [some (.ref 1), none, none, some (.long a), none, some (.int (nI i)), none] [] (hpg h 92 γ3) (0, 0) Q from this 16 0 b1 (Nat.zero_add _) rfl
    intro r
    induction r with
    | zero =>
      intro i a hi e
      have ei : i = 16 := hi
      subst ei
      rw [e] at K
      have nn : ∀ {P : Prop}, ¬ nI 16 ≤ nI 16 → P := fun z => absurd (Int32.le_refl _) z
      exact r_X_withGraph_125 X.1 X.2.2.2.2.1 S.1 S.f8.1 S.f8.2 (fun _ => K) nn nn nn nn
    | succ r ih =>
      intro i a hi e
      have e2 : dgF (orV (gRk σ c) c q) (r + 1) i a = dgF (orV (gRk σ c) c q) r (i + 1) (mx a (orV (gRk σ c) c q i)) := rfl
      have ev : ∀ v, orV (gRk σ c) c q i = v → wpE 92 125 [some (.ref 1), none, none, some (.long ((lN 31 * a) + v.toInt64)), none, some (.int (nI i + nI 1)), none] [] (hpg h 92 γ3) (0, 0) Q := fun v hv => by
        rw [← hv, nI_s]
        exact ih (i + 1) _ (by omega) (e.trans e2)
      unfold orV at ev
      refine r_X_withGraph_125 X.1 X.2.2.2.2.1 S.1 S.f8.1 S.f8.2 (fun z => absurd z (nI_ge (by omega) (by omega))) (fun _ z => absurd z (ar_n0 (by omega))) (fun _ _ z => ?_) (fun _ _ z => ?_) (fun _ _ z => ?_)
      · rw [e9, nI_leI (by omega) (by omega)] at z
        exact ev _ (if_neg (by omega))
      · rw [e9, nI_leI (by omega) (by omega)] at z
        exact inb (by omega)
      · rw [e9, nI_leI (by omega) (by omega)] at z
        rw [cl (by omega : i < 2 ^ 31), hpg_get (by decide), f4 i (by omega)]
        exact ev _ (if_pos (by omega))
  -- the pairs
  suffices ∀ (r i : Nat) (a : Int64), i + r = min 16 c → dgPo (edK σ c) (min 16 c) (min 16 c) 0 a0 = dgPo (edK σ c) (min 16 c) r i a → wpE 92 16 [some (.ref 1), none, none, some (.long a), none, some (.int (nI i)), none] [] (hpg h 92 γ1) (0, 0) Q from this (min 16 c) 0 a0 (Nat.zero_add _) rfl
  intro r
  induction r with
  | zero =>
    intro i a hi e
    have ei : i = min 16 c := hi
    refine r_X_withGraph_16 X.1 X.2.2.2.2.1 S.1 (fun _ => last a e) (fun z => ?_)
    rw [g0, ei] at z
    exact absurd (Int32.le_refl _) z
  | succ r ih =>
    intro i a hi e
    refine r_X_withGraph_16 X.1 X.2.2.2.2.1 S.1 (fun z => ?_) (fun _ => ?_)
    · rw [g0] at z; exact absurd z (nI_ge (by omega) (by omega))
    · rw [nI_s]
      suffices ∀ (r1 j : Nat) (b : Int64), j + r1 = min 16 c → i < j → dgPi (edK σ c) i (min 16 c - (i + 1)) (i + 1) a = dgPi (edK σ c) i r1 j b → wpE 92 34 [some (.ref 1), none, none, some (.long b), none, some (.int (nI i)), some (.int (nI j))] [] (hpg h 92 γ1) (0, 0) Q from this (min 16 c - (i + 1)) (i + 1) a (by omega) (by omega) rfl
      intro r1
      induction r1 with
      | zero =>
        intro j b hj hij e2
        have ej : j = min 16 c := hj
        refine r_X_withGraph_34 X.1 X.2.2.2.2.1 S.1 S.f3.1 S.f3.2 (fun _ => ?_) (fun z => ?_) (fun z => ?_) (fun z => ?_)
        · rw [nI_s]
          refine ih (i + 1) b (by omega) (e.trans ?_)
          show dgPo (edK σ c) (min 16 c) r (i + 1) (dgPi (edK σ c) i (min 16 c - (i + 1)) (i + 1) a) = _
          rw [e2]
          rfl
        all_goals
          rw [g0, ej] at z
          exact absurd (Int32.le_refl _) z
      | succ r1 ih1 =>
        intro j b hj hij e2
        have x1 : nI i * nI 17 + nI j = nI (i * 17 + j) := by rw [pk_mul, nI_add]
        have x2 : nI j * nI 17 + nI i = nI (j * 17 + i) := by rw [pk_mul, nI_add]
        have y1 : γ1 3 (i * 17 + j) = edK σ c i j := (G1.2 i (by omega)).2.2.2.2 j ⟨by omega, by omega, by omega⟩
        have y2 : γ1 3 (j * 17 + i) = edK σ c j i := (G1.2 j (by omega)).2.2.2.2 i ⟨by omega, by omega, by omega⟩
        refine r_X_withGraph_34 X.1 X.2.2.2.2.1 S.1 S.f3.1 S.f3.2 (fun z => ?_) (fun _ => by rw [x1]; exact inb (by omega)) (fun _ => by rw [x2]; exact inb (by omega)) (fun _ => ?_)
        · rw [g0] at z; exact absurd z (nI_ge (by omega) (by omega))
        · rw [x1, x2, cl (by omega : i * 17 + j < 2 ^ 31), cl (by omega : j * 17 + i < 2 ^ 31), hpg_get (by decide), hpg_get (by decide), y1, y2, nI_s]
          exact ih1 (j + 1) _ (by omega) (by omega) e2
theorem s_X_digest {h : sn_H} {c p : Nat} {σ : sn_V} {s : Nat} {st : Nat → sn_V} {n : Nat} {tx : Nat → Nat} {Q : Option Value → sn_H → Prop} (C : CI h σ s st n tx) (hσ : σ 0 1 = nI c) (hc : c < 2 ^ 30) (hp0 : σ 0 0 = nI p) (hp : p < 3)
    (K : ∀ h' q, frm 1 102 h h' → CI h' σ s st n tx → oqP σ c q → Q (some (.long (dgV σ c p q))) h') : wpE 88 0 [some (.ref 1), none, none, none] [] h (0, 0) Q := by
  have X := C.X
  have S := C.A.1
  unfold dgV at K
  refine r_X_digest_0 ?_
  -- the constraints
  have last : ∀ (h' : sn_H) (b0 : Int64), CI h' σ s st n tx → Q (some (.long (dgF (fun q => bi (hdB σ q)) 3 0 b0))) h' → ∀ (r i : Nat) (b : Int64), i + r = 3 → dgF (fun q => bi (hdB σ q)) 3 0 b0 = dgF (fun q => bi (hdB σ q)) r i b → wpE 88 93 [some (.ref 1), some (.long b), none, some (.int (nI i))] [] h' (0, 0) Q := by
    intro h' b0 C' K' r
    induction r with
    | zero =>
      intro i b hi e
      have ei : i = 3 := hi
      subst ei
      rw [e] at K'
      exact r_X_digest_93 C'.X.1 (fun _ => K') (fun z => absurd (Int32.le_refl _) z)
    | succ r ih =>
      intro i b hi e
      refine r_X_digest_93 C'.X.1 (fun z => absurd z (nI_ge (by omega) (by omega))) (fun _ => s_X_holds C' (by omega) (r_X_digest_104 ?_))
      rw [nI_s]
      exact ih (i + 1) _ (by omega) e
  -- the keys, and what is behind them
  have keys : ∀ (b0 : Int64), (∀ h' q, frm 1 102 h h' → CI h' σ s st n tx → oqP σ c q → Q (some (.long (dgF (fun q => bi (hdB σ q)) 3 0 (dgG σ c q (dgK σ (c - min 16 c + 1) (min 16 c) 0 (dgO σ c p 8 0 (dg2 (σ 4) (σ 5) 12 0 b0))))))) h') → ∀ (r i : Nat) (b : Int64), i + r = 12 → dg2 (σ 4) (σ 5) 12 0 b0 = dg2 (σ 4) (σ 5) r i b → wpE 88 31 [some (.ref 1), some (.long b), none, some (.int (nI i))] [] h (0, 0) Q := by
    intro b0 K' r
    induction r with
    | zero =>
      intro i b hi e
      have ei : i = 12 := hi
      subst ei
      rw [e] at K'
      have nn : ∀ {P : Prop}, ¬ nI 12 ≤ nI 12 → P := fun z => absurd (Int32.le_refl _) z
      refine r_X_digest_31 X.1 X.2.1 S.1 S.f7 S.k4 S.f8 S.k5 (fun _ => ?_) nn nn nn
      refine r_X_withOpenTransactions_0 (s_X_dgOpen (h0 := h) hσ hc hp0 hp 8 0 b h (Nat.zero_add _) frm.rfl' C (fun h1 f1 C1 => ?_))
      refine r_X_digest_78 C1.X.1 (s_X_dgKept C1 hσ hc ?_)
      refine r_X_digest_84 C1.X.1 (s_X_dgGraph C1 hσ hc (fun γ q oq => r_X_digest_90 ?_))
      obtain ⟨C2, f2⟩ := C1.gr (γ := γ)
      exact last _ _ C2 (K' _ q (f1.tr f2) C2 oq) 3 0 _ (Nat.zero_add _) rfl
    | succ r ih =>
      intro i b hi e
      have ci : (nI i).toNatClampNeg = i := cl (by omega)
      refine r_X_digest_31 X.1 X.2.1 S.1 S.f7 S.k4 S.f8 S.k5 (fun z => absurd z (nI_ge (by omega) (by omega))) (fun _ => inb (by omega)) (fun _ => inb (by omega)) (fun _ => ?_)
      rw [ci, C.A.2 4 (by decide) i, C.A.2 5 (by decide) i, nI_s]
      exact ih (i + 1) _ (by omega) e
  suffices ∀ (r i : Nat) (b : Int64), i + r = 8 → dgF (cnV σ c) 8 0 (lN 368) = dgF (cnV σ c) r i b → wpE 88 6 [some (.ref 1), some (.long b), none, some (.int (nI i))] [] h (0, 0) Q from this 8 0 _ (Nat.zero_add _) rfl
  intro r
  induction r with
  | zero =>
    intro i b hi e
    have ei : i = 8 := hi
    subst ei
    rw [e] at K
    exact r_X_digest_6 X.1 (fun _ => keys b K 12 0 b (Nat.zero_add _) rfl) (fun z => absurd (Int32.le_refl _) z)
  | succ r ih =>
    intro i b hi e
    refine r_X_digest_6 X.1 (fun z => absurd z (nI_ge (by omega) (by omega))) (fun _ => s_X_count C hσ hc (by omega) (r_X_digest_18 ?_))
    rw [nI_s]
    exact ih (i + 1) _ (by omega) e
