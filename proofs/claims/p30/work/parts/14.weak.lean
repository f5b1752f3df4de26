/-! ===== fewer known locals say more; words for what follows ===== -/
def LEl (L L' : sn_L) : Prop := L.length ≤ L'.length ∧ ∀ (i : Nat) (v : Value), L[i]? = some (some v) → L'[i]? = some (some v)
theorem clrL_len (L : sn_L) (i : Nat) : (clrL L i).length = L.length := by
  cases i with
  | zero => rfl
  | succ i =>
    dsimp only [clrL]
    split
    · rename_i v _
      cases Nat.beq v.category 2 <;> simp
    · rfl
theorem clrL_set {L : sn_L} {i j : Nat} {w : Value} (h : L[j]? = some (some w)) (hw : ¬ (j + 1 = i ∧ w.category = 2)) : (clrL L i)[j]? = some (some w) := by
  cases i with
  | zero => exact h
  | succ i =>
    dsimp only [clrL]
    rw [sn_nth_eq]
    split
    · rename_i v hv
      cases hc : Nat.beq v.category 2 with
      | true =>
        simp only [cond_true]
        by_cases hj : j = i
        · subst hj
          rw [hv] at h
          have e : v = w := Option.some.inj (Option.some.inj h)
          exact absurd ⟨rfl, by rw [← e]; exact Nat.eq_of_beq_eq_true hc⟩ hw
        · rw [List.getElem?_set_ne (fun q => hj q.symm)]
          exact h
      | false => exact h
    · exact h
theorem LEl_clr {L L' : sn_L} (h : LEl L L') (i : Nat) : LEl (clrL L i) (clrL L' i) := by
  refine ⟨by rw [clrL_len, clrL_len]; exact h.1, fun j w hj => ?_⟩
  obtain ⟨g1, g2⟩ := clrL_get hj
  exact clrL_set (h.2 j w g1) g2
theorem LEl_set {L L' : sn_L} (h : LEl L L') (i : Nat) (x : Option Value) : LEl (L.set i x) (L'.set i x) := by
  refine ⟨by simpa using h.1, fun j w hj => ?_⟩
  by_cases hji : j = i
  · subst hji
    have hl := (List.getElem?_eq_some_iff.mp hj).1
    have hl2 : j < L.length := by simpa using hl
    rw [List.getElem?_set_self hl2] at hj
    rw [List.getElem?_set_self (Nat.lt_of_lt_of_le hl2 h.1)]
    exact hj
  · rw [List.getElem?_set_ne (fun q => hji q.symm)] at hj ⊢
    exact h.2 j w hj
theorem LEl_stL {L L' : sn_L} (h : LEl L L') (i : Nat) (v : Value) : LEl (stL L i v) (stL L' i v) := LEl_set (LEl_clr h i) i _
theorem LEl_stLL {L L' : sn_L} (h : LEl L L') (i : Nat) (v : Value) : LEl (stLL L i v) (stLL L' i v) := LEl_set (LEl_set (LEl_clr h i) i _) (i + 1) none
theorem ldF_w {L L' : sn_L} (hL : LEl L L') {i : Nat} {k k' : Value → Prop} (h : ∀ v, k v → k' v) (H : ldF L i k) : ldF L' i k' := by
  obtain ⟨v, hv, H⟩ := ldF_d H
  rw [sn_nth_eq] at hv
  have := hL.2 i v hv
  unfold ldF
  rw [sn_nth_eq, this]
  exact h v H
set_option maxHeartbeats 4000000 in
theorem semF_w {K KA K' KA' : Nat → sn_L → List Value → sn_H → Nat × Nat → Prop} {C C' : Nat → List Value → sn_H → (Option Value → sn_H → Prop) → Prop} {Q Q' : Option Value → sn_H → Prop} {m pc : Nat} {L L1 : sn_L} {st : List Value} {h : sn_H} {c : Nat × Nat}
    (hL : LEl L L1) (hK1 : ∀ pc L L1 st h c, LEl L L1 → K pc L st h c → K' pc L1 st h c) (hA : ∀ pc L L1 st h c, LEl L L1 → KA pc L st h c → KA' pc L1 st h c)
    (hC : ∀ y as h (Q1 Q2 : Option Value → sn_H → Prop), (∀ v h, Q1 v h → Q2 v h) → C y as h Q1 → C' y as h Q2) (hQ : ∀ v h, Q v h → Q' v h) :
    semF K KA C Q m pc L st h c → semF K' KA' C' Q' m pc L1 st h c := by
  unfold semF
  split
  · exact id
  · rename_i i a b _
    cases i with
    | iconst _ => exact kF_m (fun _ => hK1 _ _ _ _ _ _ hL)
    | bipush _ => exact kF_m (fun _ => hK1 _ _ _ _ _ _ hL)
    | sipush _ => exact kF_m (fun _ => hK1 _ _ _ _ _ _ hL)
    | ldc _ => exact kF_m (fun _ => hK1 _ _ _ _ _ _ hL)
    | ldc_w _ => exact kF_m (fun _ => hK1 _ _ _ _ _ _ hL)
    | ldc2_w _ => exact hK1 _ _ _ _ _ _ hL
    | iload_n _ => exact ldF_w hL (fun v H => by cases v <;> first | exact hK1 _ _ _ _ _ _ hL H | exact H)
    | iload _ => exact ldF_w hL (fun v H => by cases v <;> first | exact hK1 _ _ _ _ _ _ hL H | exact H)
    | lload_n _ => exact ldF_w hL (fun v H => by cases v <;> first | exact hK1 _ _ _ _ _ _ hL H | exact H)
    | lload _ => exact ldF_w hL (fun v H => by cases v <;> first | exact hK1 _ _ _ _ _ _ hL H | exact H)
    | aload_n _ => exact ldF_w hL (fun v H => by cases v <;> first | exact hK1 _ _ _ _ _ _ hL H | exact H)
    | aload _ => exact ldF_w hL (fun v H => by cases v <;> first | exact hK1 _ _ _ _ _ _ hL H | exact H)
    | istore_n _ => exact i1F_m (fun x r H => ⟨H.1, hK1 _ _ _ _ _ _ (LEl_stL hL _ _) H.2⟩)
    | istore _ => exact i1F_m (fun x r H => ⟨H.1, hK1 _ _ _ _ _ _ (LEl_stL hL _ _) H.2⟩)
    | astore_n _ => exact r1F_m (fun x r H => ⟨H.1, hK1 _ _ _ _ _ _ (LEl_stL hL _ _) H.2⟩)
    | astore _ => exact r1F_m (fun x r H => ⟨H.1, hK1 _ _ _ _ _ _ (LEl_stL hL _ _) H.2⟩)
    | lstore_n _ => exact v1F_m (fun v r H => by cases v <;> first | exact ⟨H.1, hK1 _ _ _ _ _ _ (LEl_stLL hL _ _) H.2⟩ | exact H)
    | lstore _ => exact v1F_m (fun v r H => by cases v <;> first | exact ⟨H.1, hK1 _ _ _ _ _ _ (LEl_stLL hL _ _) H.2⟩ | exact H)
    | iinc _ _ => exact ldF_w hL (fun v H => by cases v <;> first | exact ⟨H.1, kF_m (fun _ => hK1 _ _ _ _ _ _ (LEl_stL hL _ _)) H.2⟩ | exact H)
    | iadd => exact i2F_m (fun _ _ _ H => hK1 _ _ _ _ _ _ hL H)
    | isub => exact i2F_m (fun _ _ _ H => hK1 _ _ _ _ _ _ hL H)
    | imul => exact i2F_m (fun _ _ _ H => hK1 _ _ _ _ _ _ hL H)
    | irem => exact i2F_m (fun _ _ _ H => ⟨H.1, hK1 _ _ _ _ _ _ hL H.2⟩)
    | iand => exact i2F_m (fun _ _ _ H => hK1 _ _ _ _ _ _ hL H)
    | ior => exact i2F_m (fun _ _ _ H => hK1 _ _ _ _ _ _ hL H)
    | ixor => exact i2F_m (fun _ _ _ H => hK1 _ _ _ _ _ _ hL H)
    | ishl => exact i2F_m (fun _ _ _ H => hK1 _ _ _ _ _ _ hL H)
    | ishr => exact i2F_m (fun _ _ _ H => hK1 _ _ _ _ _ _ hL H)
    | iushr => exact i2F_m (fun _ _ _ H => hK1 _ _ _ _ _ _ hL H)
    | ineg => exact i1F_m (fun _ _ H => hK1 _ _ _ _ _ _ hL H)
    | i2l => exact i1F_m (fun _ _ H => hK1 _ _ _ _ _ _ hL H)
    | i2c => exact i1F_m (fun _ _ H => hK1 _ _ _ _ _ _ hL H)
    | ladd => exact l2F_m (fun _ _ _ H => hK1 _ _ _ _ _ _ hL H)
    | lmul => exact l2F_m (fun _ _ _ H => hK1 _ _ _ _ _ _ hL H)
    | lcmp => exact l2F_m (fun _ _ _ H => hK1 _ _ _ _ _ _ hL H)
    | dup => exact v1F_m (fun _ _ H => ⟨H.1, hK1 _ _ _ _ _ _ hL H.2⟩)
    | pop => exact v1F_m (fun _ _ H => ⟨H.1, hK1 _ _ _ _ _ _ hL H.2⟩)
    | dup2 => exact v1F_m (fun _ _ => v1F_m (fun _ _ H => ⟨H.1, H.2.1, hK1 _ _ _ _ _ _ hL H.2.2⟩))
    | goto _ => exact hK1 _ _ _ _ _ _ hL
    | ifCond _ _ => exact i1F_m (fun _ _ => brF_m (hK1 _ _ _ _ _ _ hL) (hK1 _ _ _ _ _ _ hL))
    | if_icmp _ _ => exact i2F_m (fun _ _ _ => brF_m (hK1 _ _ _ _ _ _ hL) (hK1 _ _ _ _ _ _ hL))
    | tableswitch _ _ _ _ => exact i1F_m (fun _ _ H => ⟨tswF_m (fun _ => hK1 _ _ _ _ _ _ hL) _ _ H.1, fun q => hK1 _ _ _ _ _ _ hL (H.2 q)⟩)
    | lookupswitch _ _ => exact i1F_m (fun _ _ => lswF_m (fun _ => hK1 _ _ _ _ _ _ hL) _)
    | getfield _ => exact r1F_m (fun p r H => ⟨H.1, by
        have H2 := H.2
        revert H2
        cases sn_fR a b
        · exact hK1 _ _ _ _ _ _ hL
        · exact fun ⟨q, e, H⟩ => ⟨q, e, hK1 _ _ _ _ _ _ hL H⟩⟩)
    | putfield _ => exact v1F_m (fun v _ => r1F_m (fun p r H => ⟨H.1, by
        have H2 := H.2
        revert H2
        cases v <;> first | exact fun H => ⟨H.1, hK1 _ _ _ _ _ _ hL H.2⟩ | exact id⟩))
    | iaload => exact irF_m (fun _ _ _ ⟨x, n, e, f, H⟩ => ⟨x, n, e, f, hK1 _ _ _ _ _ _ hL H⟩)
    | caload => exact irF_m (fun _ _ _ ⟨n, e, f, H⟩ => ⟨n, e, f, hK1 _ _ _ _ _ _ hL H⟩)
    | aaload => exact irF_m (fun _ _ _ ⟨ci, n, q, e, f, g, H⟩ => ⟨ci, n, q, e, f, g, hK1 _ _ _ _ _ _ hL H⟩)
    | iastore => exact virF_m (fun v _ _ _ => by cases v <;> first | exact fun ⟨n, e, f, H⟩ => ⟨n, e, f, hK1 _ _ _ _ _ _ hL H⟩ | exact id)
    | castore => exact virF_m (fun v _ _ _ => by cases v <;> first | exact fun ⟨n, e, f, H⟩ => ⟨n, e, f, hK1 _ _ _ _ _ _ hL H⟩ | exact id)
    | aastore => exact virF_m (fun v _ _ _ => by cases v <;> first | exact fun ⟨ci, n, e, f, g, H⟩ => ⟨ci, n, e, f, g, hK1 _ _ _ _ _ _ hL H⟩ | exact id)
    | arraylength => exact r1F_m (fun _ _ ⟨x, n, e, H⟩ => ⟨x, n, e, hK1 _ _ _ _ _ _ hL H⟩)
    | new _ => exact fun H => ⟨H.1, H.2.1, hK1 _ _ _ _ _ _ hL H.2.2⟩
    | newarray _ => exact i1F_m (fun _ _ ⟨n, e, f, g, k, H⟩ => ⟨n, e, f, g, k, hK1 _ _ _ _ _ _ hL H⟩)
    | anewarray _ => exact i1F_m (fun _ _ ⟨n, e, f, g, k, H⟩ => ⟨n, e, f, g, k, hK1 _ _ _ _ _ _ hL H⟩)
    | invokestatic _ =>
      dsimp only
      cases Nat.beq a 9999 with
      | true =>
        dsimp only
        split
        · exact fun ⟨s', d', n', na, nb, e1, e2, e3, e4, e5, e6, e7, e8, e9, e10, e11, H⟩ => ⟨s', d', n', na, nb, e1, e2, e3, e4, e5, e6, e7, e8, e9, e10, e11, hK1 _ _ _ _ _ _ hL H⟩
        · exact id
      | false =>
        dsimp only
        cases Nat.beq a 9997 with
        | true => exact i2F_m (fun _ _ _ H => ⟨H.1, hK1 _ _ _ _ _ _ hL H.2⟩)
        | false =>
        dsimp only
        split
        · exact id
        · exact fun ⟨e1, e2, e3, H⟩ => ⟨e1, e2, e3, hC _ _ _ _ _ (fun v h => hA _ _ _ _ _ _ hL) H⟩
    | invokespecial _ =>
      dsimp only
      cases Nat.beq a 9998 with
      | true => exact r1F_m (fun _ _ H => ⟨H.1, hK1 _ _ _ _ _ _ hL H.2⟩)
      | false =>
        dsimp only
        split
        · exact fun ⟨e1, e2, e3, H⟩ => ⟨e1, e2, e3, hC _ _ _ _ _ (fun v h => hA _ _ _ _ _ _ hL) H⟩
        · exact id
    | invokevirtual _ =>
      dsimp only
      split
      · exact fun ⟨e0, e1, e2, e3, H⟩ => ⟨e0, e1, e2, e3, hC _ _ _ _ _ (fun v h => hA _ _ _ _ _ _ hL) H⟩
      · exact id
    | ireturn =>
      dsimp only
      split
      · split
        · exact hQ _ _
        · exact fun H => ⟨H.1, hQ _ _ H.2⟩
        · exact id
      · exact id
    | lreturn =>
      dsimp only
      split
      · exact fun H => ⟨H.1, hQ _ _ H.2⟩
      · exact id
    | areturn =>
      dsimp only
      split
      · exact fun H => ⟨H.1, hQ _ _ H.2⟩
      · exact id
    | return_ =>
      dsimp only
      split
      · exact fun H => ⟨H.1, hQ _ _ H.2⟩
      · exact id
    | _ => exact id
def LeL : sn_L → sn_L → Prop
  | [], _ => True
  | none :: l, _ :: l' => LeL l l'
  | some v :: l, some w :: l' => v = w ∧ LeL l l'
  | _ :: _, _ => False
theorem LeL_LEl : ∀ {L L' : sn_L}, LeL L L' → LEl L L'
  | [], L', _ => ⟨Nat.zero_le _, fun i v h => by simp at h⟩
  | none :: l, [], h => by cases h
  | none :: l, x :: l', h => by
    have h : LeL l l' := h
    obtain ⟨g1, g2⟩ := LeL_LEl h
    refine ⟨by simpa using g1, fun i v hi => ?_⟩
    cases i with
    | zero => simp at hi
    | succ i => simpa using g2 i v (by simpa using hi)
  | some v :: l, [], h => by cases h
  | some v :: l, none :: l', h => by cases h
  | some v :: l, some w :: l', h => by
    obtain ⟨e, h⟩ : v = w ∧ LeL l l' := h
    obtain ⟨g1, g2⟩ := LeL_LEl h
    refine ⟨by simpa using g1, fun i u hi => ?_⟩
    cases i with
    | zero => rw [← e]; simpa using hi
    | succ i => simpa using g2 i u (by simpa using hi)
theorem wpE_w {m pc : Nat} {L L' : sn_L} {st : List Value} {h : sn_H} {c : Nat × Nat} {Q : Option Value → sn_H → Prop} (hL : LeL L L') (H : wpE m pc L st h c Q) : wpE m pc L' st h c Q := by
  intro P hP
  refine H (fun m pc L st h c Q => ∀ (L' : sn_L) (Q' : Option Value → sn_H → Prop), LEl L L' → (∀ v h, Q v h → Q' v h) → P m pc L' st h c Q') ?_ L' Q (LeL_LEl hL) (fun _ _ => id)
  intro m pc L st h c Q H L' Q' hL hQ
  have rf : ∀ L : sn_L, LEl L L := fun L => ⟨Nat.le_refl _, fun _ _ => id⟩
  exact hP m pc L' st h c Q' (semF_w hL (fun pc L L1 st h c hL H => H L1 Q' hL hQ) (fun pc L L1 st h c hL H => H L1 Q' hL hQ) (fun y as h Q1 Q2 h12 H => ⟨H.1, H.2 (entL y as) Q2 (rf _) h12⟩) hQ H)
