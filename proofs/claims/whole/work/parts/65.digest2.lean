/-! ===== digest: the Model's way ===== -/
def dsc (μ0 μ : sn_V) : Prop := ∀ j k, j ≠ 5 → j ≠ 6 → j ≠ 7 → ¬ (j = 0 ∧ (k = 6 ∨ k = 10)) → μ j k = μ0 j k
theorem dsc.e1 {μ0 μ : sn_V} (h : dsc μ0 μ) : μ 1 = μ0 1 := funext fun k => h 1 k (by omega) (by omega) (by omega) (by omega)
theorem dsc.tr {a b d : sn_V} (h1 : dsc a b) (h2 : dsc b d) : dsc a d := fun j k x y z w => (h2 j k x y z w).trans (h1 j k x y z w)
theorem s_M_digest {h : sn_H} {c p q : Nat} {σ μ0 : sn_V} {Q : Option Value → sn_H → Prop} (S : MoS h 103) (R : Rel c σ (μ0 1)) (hc : c < 2 ^ 30) (hp0 : σ 0 0 = nI p) (hp : p < 3) (oq : oqP σ c q)
    (K : ∀ μ, dsc μ0 μ → Q (some (.long (dgV σ c p q))) (mpt h 103 μ)) : wpE 173 0 [some (.ref 103), none, none, none, none] [] (mpt h 103 μ0) (0, 0) Q := by
  have hn : min 16 c ≤ 16 := Nat.min_le_left _ _
  have hn2 : min 16 c ≤ c := Nat.min_le_right _ _
  have RR : ∀ {μ}, dsc μ0 μ → Rel c σ (μ 1) := fun g => by rw [g.e1]; exact R
  have d0 : dsc μ0 μ0 := fun _ _ _ _ _ _ => rfl
  have d56 : ∀ {μ μ' : sn_V}, dsc μ0 μ → (∀ j k, j ≠ 5 → j ≠ 6 → ¬ (j = 0 ∧ k = 6) → μ' j k = μ j k) → dsc μ0 μ' := fun g g2 => g.tr (fun j k a b _ d => g2 j k a b (by omega))
  unfold dgV dgG at K
  refine r_M_digest_0 ?_
  -- 8: the constraints
  have s8 : ∀ (b0 : Int64) (μ : sn_V), dsc μ0 μ → Q (some (.long (dgF (fun q => bi (hdB σ q)) 3 0 b0))) (mpt h 103 μ) → ∀ (r i : Nat) (b : Int64), i + r = 3 → dgF (fun q => bi (hdB σ q)) 3 0 b0 = dgF (fun q => bi (hdB σ q)) r i b → wpE 173 349 [some (.ref 103), some (.long b), none, some (.int (nI i)), none] [] (mpt h 103 μ) (0, 0) Q := by
    intro b0 μ g K' r
    induction r with
    | zero =>
      intro i b hi e
      have ei : i = 3 := hi
      subst ei
      rw [e] at K'
      exact r_M_digest_349 S.1 (fun _ => K') (fun z => absurd (Int32.le_refl _) z)
    | succ r ih =>
      intro i b hi e
      refine r_M_digest_349 S.1 (fun z => absurd z (nI_ge (by omega) (by omega))) (fun _ => s_M_held S (RR g) (by omega) (r_M_digest_364 ?_))
      rw [nI_s]
      exact ih (i + 1) _ (by omega) e
  -- 6, 7: rings and order
  have s67 : ∀ (b0 : Int64) (μ : sn_V), dsc μ0 μ → (∀ μ, dsc μ0 μ → Q (some (.long (dgF (fun q => bi (hdB σ q)) 3 0 (dgF (orV (gRk σ c) c q) 16 0 (mx b0 (nI (rcN (gRk σ c) (min 16 c)))))))) (mpt h 103 μ)) →
      wpE 147 0 [some (.ref 103), none, none] [] (mpt h 103 μ) (0, 0) (fun r hh => wpE 173 313 [some (.ref 103), none, none, none, none] (r.toList ++ [.long (lN 31 * b0)]) hh (0, 0) Q) := by
    intro b0 μ g K'
    refine s_M_ringsMany S hc (RR g).c2 (fun μ1 g1 => ?_)
    have D1 := d56 g g1
    rw [gR_kept (RR g) hc, rm_same hn (fun _ _ z => gR_lt z)]
    refine r_M_digest_313 S.1 (s_M_findOrder S hc (RR D1).c2 (fun μ2 T f1 f2 f3 f4 f5 f6 => r_M_digest_320 ?_))
    have D2 : dsc μ0 μ2 := D1.tr (fun j k a _ d e => f1 j k a d e)
    rw [gR_kept (RR D1) hc] at f4 f5 f6
    show wpE 173 322 [some (.ref 103), some (.long (mx b0 (nI (rcN (gRk σ c) (min 16 c))))), none, some (.int (nI 0)), none] [] (mpt h 103 μ2) (0, 0) Q
    have K'' := K' μ2 D2
    generalize mx b0 (nI (rcN (gRk σ c) (min 16 c))) = b1 at K''
    suffices ∀ (r i : Nat) (a : Int64), i + r = 16 → dgF (orV (gRk σ c) c q) 16 0 b1 = dgF (orV (gRk σ c) c q) r i a → wpE 173 322 [some (.ref 103), some (.long a), none, some (.int (nI i)), none] [] (mpt h 103 μ2) (0, 0) Q from this 16 0 b1 (Nat.zero_add _) rfl
    intro r
    induction r with
    | zero =>
      intro i a hi e
      have ei : i = 16 := hi
      subst ei
      rw [e] at K''
      exact r_M_digest_322 S.1 (fun _ => s8 _ μ2 D2 K'' 3 0 _ (Nat.zero_add _) rfl) (fun z => absurd (Int32.le_refl _) z)
    | succ r ih =>
      intro i a hi e
      refine r_M_digest_322 S.1 (fun z => absurd z (nI_ge (by omega) (by omega))) (fun _ => s_M_orderOf (T := T) S hc (RR D2).c2 f2 (by omega) (by omega) (r_M_digest_338 ?_))
      have ev : (if T = min 16 c ∧ i < T then μ2 7 i else -(nI 20006)) = orV (gRk σ c) c q i := or_same (R := gRk σ c) oq f3 f4 f5 f6
      rw [ev, nI_s]
      exact ih (i + 1) _ (by omega) e
  -- 5: the pairs
  have s5 : ∀ (b0 : Int64) (μ : sn_V), dsc μ0 μ → (∀ μ, dsc μ0 μ → Q (some (.long (dgF (fun q => bi (hdB σ q)) 3 0 (dgF (orV (gRk σ c) c q) 16 0 (mx (dgPo (edK σ c) (min 16 c) (min 16 c) 0 b0) (nI (rcN (gRk σ c) (min 16 c)))))))) (mpt h 103 μ)) →
      ∀ (r i : Nat) (a : Int64), i + r = min 16 c → dgPo (edK σ c) (min 16 c) (min 16 c) 0 b0 = dgPo (edK σ c) (min 16 c) r i a → wpE 173 240 [some (.ref 103), some (.long a), none, some (.int (nI i)), none] [] (mpt h 103 μ) (0, 0) Q := by
    intro b0 μ g K' r
    have kept : ∀ {Q' : Option Value → sn_H → Prop}, Q' (some (.int (nI (min 16 c)))) (mpt h 103 μ) → wpE 121 0 [some (.ref 103)] [] (mpt h 103 μ) (0, 0) Q' := fun hq => s_M_keptMany (mpt_A S) hc (RR g).c2 hq
    induction r with
    | zero =>
      intro i a hi e
      have ei : i = min 16 c := hi
      rw [e] at K'
      refine r_M_digest_240 S.1 (kept ?_)
      rw [ei]
      exact r_M_digest_245 S.1 (fun _ => s67 a μ g K') (fun z => absurd (Int32.le_refl _) z)
    | succ r ih =>
      intro i a hi e
      refine r_M_digest_240 S.1 (kept (r_M_digest_245 S.1 (fun z => absurd z (nI_ge (by omega) (by omega))) (fun _ => ?_)))
      rw [nI_s]
      suffices ∀ (r1 j : Nat) (b : Int64), j + r1 = min 16 c → i < j → dgPi (edK σ c) i (min 16 c - (i + 1)) (i + 1) a = dgPi (edK σ c) i r1 j b → wpE 173 253 [some (.ref 103), some (.long b), none, some (.int (nI i)), some (.int (nI j))] [] (mpt h 103 μ) (0, 0) Q from this (min 16 c - (i + 1)) (i + 1) a (by omega) (by omega) rfl
      intro r1
      induction r1 with
      | zero =>
        intro j b hj hij e2
        have ej : j = min 16 c := hj
        refine r_M_digest_253 S.1 (kept ?_)
        rw [ej]
        refine r_M_digest_259 S.1 (fun _ => ?_) (fun z => absurd (Int32.le_refl _) z)
        rw [nI_s]
        refine ih (i + 1) b (by omega) (e.trans ?_)
        show dgPo (edK σ c) (min 16 c) r (i + 1) (dgPi (edK σ c) i (min 16 c - (i + 1)) (i + 1) a) = _
        rw [e2]
        rfl
      | succ r1 ih1 =>
        intro j b hj hij e2
        have y1 : mS μ c 0 i j = edK σ c i j := (ed_kept (w := 0) (RR g) hc (by omega) (by omega)).1.symm
        have y2 : mS μ c 0 j i = edK σ c j i := (ed_kept (w := 0) (RR g) hc (by omega) (by omega)).1.symm
        refine r_M_digest_253 S.1 (kept (r_M_digest_259 S.1 (fun z => absurd z (nI_ge (by omega) (by omega))) (fun _ => ?_)))
        refine s_M_dependencyOf (w := 0) (mpt_A S) hc (by omega) (by omega) (RR g).c2 (by omega) (fun z => by exfalso; omega) (fun z => by exfalso; omega) ?_
        rw [y1]
        refine r_M_digest_274 S.1 (s_M_dependencyOf (w := 0) (mpt_A S) hc (by omega) (by omega) (RR g).c2 (by omega) (fun z => by exfalso; omega) (fun z => by exfalso; omega) ?_)
        rw [y2]
        refine r_M_digest_289 ?_
        rw [nI_s]
        exact ih1 (j + 1) _ (by omega) (by omega) e2
  -- 4: the kept commits
  have s4 : ∀ (b0 : Int64) (μ : sn_V), dsc μ0 μ → (∀ μ, dsc μ0 μ → Q (some (.long (dgF (fun q => bi (hdB σ q)) 3 0 (dgF (orV (gRk σ c) c q) 16 0 (mx (dgPo (edK σ c) (min 16 c) (min 16 c) 0 (dgK σ (c - min 16 c + 1) (min 16 c) 0 b0)) (nI (rcN (gRk σ c) (min 16 c)))))))) (mpt h 103 μ)) →
      ∀ (r i : Nat) (a : Int64), i + r = min 16 c → dgK σ (c - min 16 c + 1) (min 16 c) 0 b0 = dgK σ (c - min 16 c + 1) r i a → wpE 173 172 [some (.ref 103), some (.long a), none, some (.int (nI i)), none] [] (mpt h 103 μ) (0, 0) Q := by
    intro b0 μ g K' r
    have kept : ∀ {Q' : Option Value → sn_H → Prop}, Q' (some (.int (nI (min 16 c)))) (mpt h 103 μ) → wpE 121 0 [some (.ref 103)] [] (mpt h 103 μ) (0, 0) Q' := fun hq => s_M_keptMany (mpt_A S) hc (RR g).c2 hq
    have mn : ∀ i, i < min 16 c → mnN c i = c - min 16 c + 1 + i := fun i hi => by unfold mnN; rw [if_neg (by omega)]
    induction r with
    | zero =>
      intro i a hi e
      have ei : i = min 16 c := hi
      rw [e] at K'
      refine r_M_digest_172 S.1 (kept ?_)
      rw [ei]
      exact r_M_digest_177 S.1 (fun _ => s5 a μ g K' (min 16 c) 0 a (Nat.zero_add _) rfl) (fun z => absurd (Int32.le_refl _) z)
    | succ r ih =>
      intro i a hi e
      refine r_M_digest_172 S.1 (kept (r_M_digest_177 S.1 (fun z => absurd z (nI_ge (by omega) (by omega))) (fun _ => s_M_numberOf (mpt_A S) hc (by omega) (RR g).c2 (r_M_digest_190 ?_))))
      rw [mn i (by omega)]
      suffices ∀ (r1 j : Nat) (b : Int64), j + r1 = 3 → dgF (ocV σ (c - min 16 c + 1 + i)) 3 0 (mx a (nI (c - min 16 c + 1 + i))) = dgF (ocV σ (c - min 16 c + 1 + i)) r1 j b → wpE 173 196 [some (.ref 103), some (.long b), none, some (.int (nI i)), some (.int (nI j))] [] (mpt h 103 μ) (0, 0) Q from this 3 0 _ (Nat.zero_add _) rfl
      intro r1
      induction r1 with
      | zero =>
        intro j b hj e2
        have ej : j = 3 := hj
        subst ej
        refine r_M_digest_196 S.1 S.f1.1 (fun _ => ?_) (fun y => absurd (nI_lt (by omega) (by omega)) y)
        rw [nI_s]
        refine ih (i + 1) b (by omega) (e.trans ?_)
        show dgK σ (c - min 16 c + 1) r (i + 1) (dgF (ocV σ (c - min 16 c + 1 + i)) 3 0 (mx a (nI (c - min 16 c + 1 + i)))) = _
        rw [e2]
        rfl
      | succ r1 ih1 =>
        intro j b hj e2
        refine r_M_digest_196 S.1 S.f1.1 (fun y => absurd y (nI_nlt (by omega) (by omega))) (fun _ => s_M_numberOf (mpt_A S) hc (by omega) (RR g).c2 ?_)
        rw [mn i (by omega)]
        refine r_M_digest_216 S.f1.2 (by rw [ka_ix (by omega)]; exact inb (by omega)) ?_
        rw [ka_ix (by omega), cl (by omega), mpt_get (by decide), oc_same (RR g) (by omega) (by omega) (by omega) (by omega), nI_s]
        exact ih1 (j + 1) _ (by omega) e2
  -- 3: the open transactions
  have s3 : ∀ (r i : Nat) (a : Int64) (μ : sn_V), i + r = 8 → dsc μ0 μ → (∀ μ, dsc μ0 μ → Q (some (.long (dgF (fun q => bi (hdB σ q)) 3 0 (dgF (orV (gRk σ c) c q) 16 0 (mx (dgPo (edK σ c) (min 16 c) (min 16 c) 0 (dgK σ (c - min 16 c + 1) (min 16 c) 0 (dgO σ c p r i a))) (nI (rcN (gRk σ c) (min 16 c)))))))) (mpt h 103 μ)) →
      wpE 173 81 [some (.ref 103), some (.long a), none, some (.int (nI i)), none] [] (mpt h 103 μ) (0, 0) Q := by
    intro r
    induction r with
    | zero =>
      intro i a μ hi g K'
      have ei : i = 8 := hi
      subst ei
      have nn : ∀ {P : Prop}, ¬ nI 8 ≤ nI 8 → P := fun z => absurd (Int32.le_refl _) z
      exact r_M_digest_81 S.1 S.f1.1 S.f1.2 (fun _ => s4 a μ g K' (min 16 c) 0 a (Nat.zero_add _) rfl) nn nn nn nn nn
    | succ r ih =>
      intro i a μ hi g K'
      have hi8 : i < 8 := by omega
      have K2 : ∀ μ, dsc μ0 μ → Q (some (.long (dgF (fun q => bi (hdB σ q)) 3 0 (dgF (orV (gRk σ c) c q) 16 0 (mx (dgPo (edK σ c) (min 16 c) (min 16 c) 0 (dgK σ (c - min 16 c + 1) (min 16 c) 0 (dgO σ c p r (i + 1) (if bitP (σ 0 3) i then dgF (fun q => bi (hfB σ i q)) 3 0 (dgF (ofV σ c p i) 4 0 (mx a (nI i))) else a)))) (nI (rcN (gRk σ c) (min 16 c)))))))) (mpt h 103 μ) := K'
      refine r_M_digest_81 S.1 S.f1.1 S.f1.2 (fun z => absurd z (nI_ge (by omega) (by omega))) (fun _ z => absurd z (ar_n0' (by omega))) (fun _ _ z => absurd z (ar_nl' (by omega) (by omega))) (fun _ _ _ => mo_in hi8) (fun _ _ _ z => ?_) (fun _ _ _ z => ?_)
      · have no : ¬ bitP (σ 0 3) i := fun q => z ((op_m S (RR g) hi8).mpr q)
        rw [if_neg no] at K2
        rw [nI_s]
        exact ih (i + 1) a μ (by omega) g K2
      · have o := (op_m S (RR g) hi8).mp z
        rw [if_pos o] at K2
        -- the constraints of the slot
        have lasts : ∀ (r2 j : Nat) (b : Int64) (μ1 : sn_V), j + r2 = 3 → dsc μ0 μ1 → dgF (fun q => bi (hfB σ i q)) 3 0 (dgF (ofV σ c p i) 4 0 (mx a (nI i))) = dgF (fun q => bi (hfB σ i q)) r2 j b → wpE 173 137 [some (.ref 103), some (.long b), none, some (.int (nI i)), some (.int (nI j))] [] (mpt h 103 μ1) (0, 0) Q := by
          intro r2
          induction r2 with
          | zero =>
            intro j b μ1 hj g1 e
            have ej : j = 3 := hj
            subst ej
            refine r_M_digest_137 S.1 (fun _ => ?_) (fun y => absurd (Int32.le_refl _) y)
            rw [nI_s]
            rw [e] at K2
            exact ih (i + 1) _ μ1 (by omega) g1 K2
          | succ r2 ih2 =>
            intro j b μ1 hj g1 e
            refine r_M_digest_137 S.1 (fun y => absurd y (nI_ge (by omega) (by omega))) (fun _ => s_M_heldFor S (RR g1) (by omega) hi8 o (r_M_digest_155 ?_))
            rw [nI_s]
            exact ih2 (j + 1) _ μ1 (by omega) g1 e
        suffices ∀ (r1 j : Nat) (b : Int64) (μ1 : sn_V), j + r1 = 4 → dsc μ0 μ1 → dgF (ofV σ c p i) 4 0 (mx a (nI i)) = dgF (ofV σ c p i) r1 j b → wpE 173 107 [some (.ref 103), some (.long b), none, some (.int (nI i)), some (.int (nI j))] [] (mpt h 103 μ1) (0, 0) Q from
          this 4 0 _ μ (Nat.zero_add _) g rfl
        intro r1
        induction r1 with
        | zero =>
          intro j b μ1 hj g1 e
          have ej : j = 4 := hj
          subst ej
          refine r_M_digest_107 S.1 (fun _ => ?_) (fun y => absurd (nI_lt (by omega) (by omega)) y)
          exact lasts 3 0 b μ1 (Nat.zero_add _) g1 (by rw [e]; rfl)
        | succ r1 ih1 =>
          intro j b μ1 hj g1 e
          refine r_M_digest_107 S.1 (fun y => absurd y (nI_nlt (by omega) (by omega))) (fun _ => s_M_ofSlot S (RR g1) hc hi8 o hp0 hp (by omega) (fun μ2 g2 => r_M_digest_125 ?_))
          rw [nI_s]
          exact ih1 (j + 1) _ μ2 (by omega) (d56 g1 g2) e
  -- 2: the keys
  have s2 : ∀ (b0 : Int64), (∀ μ, dsc μ0 μ → Q (some (.long (dgF (fun q => bi (hdB σ q)) 3 0 (dgF (orV (gRk σ c) c q) 16 0 (mx (dgPo (edK σ c) (min 16 c) (min 16 c) 0 (dgK σ (c - min 16 c + 1) (min 16 c) 0 (dgO σ c p 8 0 (dg2 (σ 4) (σ 5) 12 0 b0)))) (nI (rcN (gRk σ c) (min 16 c)))))))) (mpt h 103 μ)) →
      ∀ (r i : Nat) (b : Int64), i + r = 12 → dg2 (σ 4) (σ 5) 12 0 b0 = dg2 (σ 4) (σ 5) r i b → wpE 173 33 [some (.ref 103), some (.long b), none, some (.int (nI i)), none] [] (mpt h 103 μ0) (0, 0) Q := by
    intro b0 K' r
    induction r with
    | zero =>
      intro i b hi e
      have ei : i = 12 := hi
      subst ei
      rw [e] at K'
      have nn : ∀ {P : Prop}, ¬ nI 12 ≤ nI 12 → P := fun z => absurd (Int32.le_refl _) z
      exact r_M_digest_33 S.1 S.f1.1 S.f1.2 (fun _ => s3 8 0 b μ0 (Nat.zero_add _) d0 K') nn nn nn
    | succ r ih =>
      intro i b hi e
      obtain ⟨k1, k2⟩ := R.2.2.2.2.2.1 i (by omega)
      refine r_M_digest_33 S.1 S.f1.1 S.f1.2 (fun z => absurd z (nI_ge (by omega) (by omega))) (fun _ => by rw [nI_add]; exact inb (by omega)) (fun _ => by rw [nI_add]; exact inb (by omega)) (fun _ => ?_)
      rw [nI_add 12 i, nI_add 24 i, cl (by omega : 12 + i < 2 ^ 31), cl (by omega : 24 + i < 2 ^ 31), mpt_get (by decide), mpt_get (by decide), k1, k2, nI_s]
      exact ih (i + 1) _ (by omega) e
  -- 1: the counts
  suffices ∀ (r i : Nat) (b : Int64), i + r = 8 → dgF (cnV σ c) 8 0 (lN 368) = dgF (cnV σ c) r i b → wpE 173 6 [some (.ref 103), some (.long b), none, some (.int (nI i)), none] [] (mpt h 103 μ0) (0, 0) Q from this 8 0 _ (Nat.zero_add _) rfl
  intro r
  induction r with
  | zero =>
    intro i b hi e
    have ei : i = 8 := hi
    subst ei
    rw [e] at K
    exact r_M_digest_6 S.1 (fun _ => s2 b K 12 0 b (Nat.zero_add _) rfl) (fun z => absurd (nI_lt (by omega) (by omega)) z)
  | succ r ih =>
    intro i b hi e
    refine r_M_digest_6 S.1 (fun z => absurd z (nI_nlt (by omega) (by omega))) (fun _ => s_M_countOf S R hc (by omega) (r_M_digest_22 ?_))
    rw [nI_s]
    exact ih (i + 1) _ (by omega) e
theorem two_digest {L : Nat} {scr : Nat → Int32} {B : Nat} {h : sn_H} (I : Inv B L scr h) (hB : B < 2 ^ 29) : Two L scr B 88 173 [some (.ref 1), none, none, none] [some (.ref 103), none, none, none, none] h := by
  obtain ⟨La, c, σ, s, st, n, tx, μ, C, A, R⟩ := I
  have hc : c < 2 ^ 30 := by have := R.1.2; omega
  obtain ⟨p, p1, p2, p3⟩ := R.1.1.2.1
  intro Q K
  refine s_X_digest C R.1.1.c1 hc p2 p1 (fun h2 q f C2 oq => ?_)
  refine K _ _ (fun Q2 K2 => ?_)
  have A2 := f.Mo A (by omega)
  have La2 := f.La La (by omega)
  rw [A2.put]
  refine s_M_digest A2.1 R.1.1 hc p2 p1 oq (fun μ' g => ?_)
  exact K2 _ (two_fin (c := c) La2 C2 A2.1 (R.scr (by omega) g))
