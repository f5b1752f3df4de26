/-! ===== what a piece of code leaves as it was: the kinds of the places that were, and the script ===== -/
def Kp (h h' : sn_H) : Prop := hN h ≤ hN h' ∧ ∀ p, p < hN h → hK h' p = hK h p ∧ ∀ n, hK h p = (1, 1, n) → ∀ k, hG h' p k = hG h p k
theorem Kp.rf (h : sn_H) : Kp h h := ⟨Nat.le_refl _, fun _ _ => ⟨rfl, fun _ _ _ => rfl⟩⟩
theorem Kp.tr {h h1 h2 : sn_H} (a : Kp h h1) (b : Kp h1 h2) : Kp h h2 :=
  ⟨Nat.le_trans a.1 b.1, fun p hp => ⟨(b.2 p (Nat.lt_of_lt_of_le hp a.1)).1.trans (a.2 p hp).1, fun n e k => ((b.2 p (Nat.lt_of_lt_of_le hp a.1)).2 n ((a.2 p hp).1.trans e) k).trans ((a.2 p hp).2 n e k)⟩⟩
theorem Kp.al (h : sn_H) (kd : Nat × Nat × Nat) : Kp h (allocH h kd) := ⟨Nat.le_succ _, fun p hp => ⟨if_neg (Nat.ne_of_lt hp), fun _ _ _ => if_neg (Nat.ne_of_lt hp)⟩⟩
theorem Kp.sR (h : sn_H) (p k r : Nat) : Kp h (setR h p k r) := ⟨Nat.le_refl _, fun _ _ => ⟨rfl, fun _ _ _ => rfl⟩⟩
theorem Kp.sG {h : sn_H} {p k : Nat} {v : Int32} (e : ∀ n, ¬ hK h p = (1, 1, n)) : Kp h (setG h p k v) := ⟨Nat.le_refl _, fun q _ => ⟨rfl, fun n eq _ => if_neg (fun z : q = p ∧ _ => e n (z.1 ▸ eq))⟩⟩
theorem Kp.cp {h : sn_H} {a s b d m : Nat} (e : ∀ n, ¬ hK h b = (1, 1, n)) : Kp h (cpG h a s b d m) := ⟨Nat.le_refl _, fun q _ => ⟨rfl, fun n eq _ => if_neg (fun z : q = b ∧ _ => e n (z.1 ▸ eq))⟩⟩
theorem Kp.n0 {h : sn_H} {p a b : Nat} (e : hK h p = (0, a, b)) : ∀ n, ¬ hK h p = (1, 1, n) := fun n z => by rw [e] at z; injection z; contradiction
theorem Kp.n1 {h : sn_H} {p b : Nat} (e : hK h p = (1, 0, b)) : ∀ n, ¬ hK h p = (1, 1, n) := fun n z => by rw [e] at z; injection z with _ z; injection z; contradiction
theorem Kp.n2 {h : sn_H} {p a b : Nat} (e : hK h p = (2, a, b)) : ∀ n, ¬ hK h p = (1, 1, n) := fun n z => by rw [e] at z; injection z; contradiction
/-- an answer is of the method's type -/
def Rt (m : Nat) (v : Option Value) : Prop := (sn_mR m = some .int ∨ sn_mR m = some .boolean) → ∃ x, v = some (.int x)
set_option maxHeartbeats 4000000 in
theorem semF_k {K KA K' KA' : Nat → sn_L → List Value → sn_H → Nat × Nat → Prop} {C C' : Nat → List Value → sn_H → (Option Value → sn_H → Prop) → Prop} {Q Q' : Option Value → sn_H → Prop} {m pc : Nat} {L : sn_L} {st : List Value} {h : sn_H} {c : Nat × Nat}
    (hK0 : ∀ h', Kp h h' → ∀ pc L st c, K pc L st h' c → K' pc L st h' c) (hA : ∀ h', Kp h h' → ∀ pc L st c, KA pc L st h' c → KA' pc L st h' c)
    (hC : ∀ y as (Q1 Q2 : Option Value → sn_H → Prop), (∀ v h', Kp h h' → Q1 v h' → Q2 v h') → C y as h Q1 → C' y as h Q2) (hQ : ∀ v, Rt m v → Q v h → Q' v h) :
    semF K KA C Q m pc L st h c → semF K' KA' C' Q' m pc L st h c := by
  have hK1 : ∀ pc L st c, K pc L st h c → K' pc L st h c := hK0 h (Kp.rf h)
  unfold semF
  split
  · exact id
  · rename_i i a b _
    have ld : ∀ {pc' : Nat} {i : Nat} {f : Value → Prop} {f' : Value → Prop}, (∀ v, f v → f' v) → ldF L i f → ldF L i f' := fun h => ldF_m h
    cases i with
    | iconst _ => exact kF_m (fun _ => hK1 _ _ _ _)
    | bipush _ => exact kF_m (fun _ => hK1 _ _ _ _)
    | sipush _ => exact kF_m (fun _ => hK1 _ _ _ _)
    | ldc _ => exact kF_m (fun _ => hK1 _ _ _ _)
    | ldc_w _ => exact kF_m (fun _ => hK1 _ _ _ _)
    | ldc2_w _ => exact hK1 _ _ _ _
    | iload_n _ => exact ldF_m (fun v H => by cases v <;> first | exact hK1 _ _ _ _ H | exact H)
    | iload _ => exact ldF_m (fun v H => by cases v <;> first | exact hK1 _ _ _ _ H | exact H)
    | lload_n _ => exact ldF_m (fun v H => by cases v <;> first | exact hK1 _ _ _ _ H | exact H)
    | lload _ => exact ldF_m (fun v H => by cases v <;> first | exact hK1 _ _ _ _ H | exact H)
    | aload_n _ => exact ldF_m (fun v H => by cases v <;> first | exact hK1 _ _ _ _ H | exact H)
    | aload _ => exact ldF_m (fun v H => by cases v <;> first | exact hK1 _ _ _ _ H | exact H)
    | istore_n _ => exact i1F_m (fun x r H => ⟨H.1, hK1 _ _ _ _ H.2⟩)
    | istore _ => exact i1F_m (fun x r H => ⟨H.1, hK1 _ _ _ _ H.2⟩)
    | astore_n _ => exact r1F_m (fun x r H => ⟨H.1, hK1 _ _ _ _ H.2⟩)
    | astore _ => exact r1F_m (fun x r H => ⟨H.1, hK1 _ _ _ _ H.2⟩)
    | lstore_n _ => exact v1F_m (fun v r H => by cases v <;> first | exact ⟨H.1, hK1 _ _ _ _ H.2⟩ | exact H)
    | lstore _ => exact v1F_m (fun v r H => by cases v <;> first | exact ⟨H.1, hK1 _ _ _ _ H.2⟩ | exact H)
    | iinc _ _ => exact ldF_m (fun v H => by cases v <;> first | exact ⟨H.1, kF_m (fun _ => hK1 _ _ _ _) H.2⟩ | exact H)
    | iadd => exact i2F_m (fun _ _ _ H => hK1 _ _ _ _ H)
    | isub => exact i2F_m (fun _ _ _ H => hK1 _ _ _ _ H)
    | imul => exact i2F_m (fun _ _ _ H => hK1 _ _ _ _ H)
    | irem => exact i2F_m (fun _ _ _ H => ⟨H.1, hK1 _ _ _ _ H.2⟩)
    | iand => exact i2F_m (fun _ _ _ H => hK1 _ _ _ _ H)
    | ior => exact i2F_m (fun _ _ _ H => hK1 _ _ _ _ H)
    | ixor => exact i2F_m (fun _ _ _ H => hK1 _ _ _ _ H)
    | ishl => exact i2F_m (fun _ _ _ H => hK1 _ _ _ _ H)
    | ishr => exact i2F_m (fun _ _ _ H => hK1 _ _ _ _ H)
    | iushr => exact i2F_m (fun _ _ _ H => hK1 _ _ _ _ H)
    | ineg => exact i1F_m (fun _ _ H => hK1 _ _ _ _ H)
    | i2l => exact i1F_m (fun _ _ H => hK1 _ _ _ _ H)
    | i2c => exact i1F_m (fun _ _ H => hK1 _ _ _ _ H)
    | ladd => exact l2F_m (fun _ _ _ H => hK1 _ _ _ _ H)
    | lmul => exact l2F_m (fun _ _ _ H => hK1 _ _ _ _ H)
    | lcmp => exact l2F_m (fun _ _ _ H => hK1 _ _ _ _ H)
    | dup => exact v1F_m (fun _ _ H => ⟨H.1, hK1 _ _ _ _ H.2⟩)
    | pop => exact v1F_m (fun _ _ H => ⟨H.1, hK1 _ _ _ _ H.2⟩)
    | dup2 => exact v1F_m (fun _ _ => v1F_m (fun _ _ H => ⟨H.1, H.2.1, hK1 _ _ _ _ H.2.2⟩))
    | goto _ => exact hK1 _ _ _ _
    | ifCond _ _ => exact i1F_m (fun _ _ => brF_m (hK1 _ _ _ _) (hK1 _ _ _ _))
    | if_icmp _ _ => exact i2F_m (fun _ _ _ => brF_m (hK1 _ _ _ _) (hK1 _ _ _ _))
    | tableswitch _ _ _ _ => exact i1F_m (fun _ _ H => ⟨tswF_m (fun _ => hK1 _ _ _ _) _ _ H.1, fun q => hK1 _ _ _ _ (H.2 q)⟩)
    | lookupswitch _ _ => exact i1F_m (fun _ _ => lswF_m (fun _ => hK1 _ _ _ _) _)
    | getfield _ => exact r1F_m (fun p r H => ⟨H.1, by
        have H2 := H.2
        revert H2
        cases sn_fR a b
        · exact hK1 _ _ _ _
        · exact fun ⟨q, e, H⟩ => ⟨q, e, hK1 _ _ _ _ H⟩⟩)
    | putfield _ => exact v1F_m (fun v _ => r1F_m (fun p r H => ⟨H.1, by
        have H2 := H.2
        revert H2
        cases v <;> first | exact fun H2 => ⟨H2.1, hK0 _ (Kp.sG (Kp.n0 H.1)) _ _ _ _ H2.2⟩ | exact fun H2 => ⟨H2.1, hK0 _ (Kp.sR _ _ _ _) _ _ _ _ H2.2⟩ | exact id⟩))
    | iaload => exact irF_m (fun _ _ _ ⟨x, n, e, f, H⟩ => ⟨x, n, e, f, hK1 _ _ _ _ H⟩)
    | caload => exact irF_m (fun _ _ _ ⟨n, e, f, H⟩ => ⟨n, e, f, hK1 _ _ _ _ H⟩)
    | aaload => exact irF_m (fun _ _ _ ⟨ci, n, q, e, f, g, H⟩ => ⟨ci, n, q, e, f, g, hK1 _ _ _ _ H⟩)
    | iastore => exact virF_m (fun v _ _ _ => by cases v <;> first | exact fun ⟨n, e, f, H⟩ => ⟨n, e, f, hK0 _ (Kp.sG (Kp.n1 e)) _ _ _ _ H⟩ | exact id)
    | castore => exact virF_m (fun v _ _ _ => by cases v <;> first | exact fun ⟨n, e, f, H⟩ => ⟨n, e, f, hK0 _ (Kp.sG (Kp.n2 e)) _ _ _ _ H⟩ | exact id)
    | aastore => exact virF_m (fun v _ _ _ => by cases v <;> first | exact fun ⟨ci, n, e, f, g, H⟩ => ⟨ci, n, e, f, g, hK0 _ (Kp.sR _ _ _ _) _ _ _ _ H⟩ | exact id)
    | arraylength => exact r1F_m (fun _ _ ⟨x, n, e, H⟩ => ⟨x, n, e, hK1 _ _ _ _ H⟩)
    | new _ => exact fun H => ⟨H.1, H.2.1, hK0 _ (Kp.al _ _) _ _ _ _ H.2.2⟩
    | newarray _ => exact i1F_m (fun _ _ ⟨n, e, f, g, k, H⟩ => ⟨n, e, f, g, k, hK0 _ (Kp.al _ _) _ _ _ _ H⟩)
    | anewarray _ => exact i1F_m (fun _ _ ⟨n, e, f, g, k, H⟩ => ⟨n, e, f, g, k, hK0 _ (Kp.al _ _) _ _ _ _ H⟩)
    | invokestatic _ =>
      dsimp only
      cases Nat.beq a 9999 with
      | true =>
        dsimp only
        split
        · exact fun ⟨s', d', n', na, nb, e1, e2, e3, e4, e5, e6, e7, e8, e9, e10, e11, H⟩ => ⟨s', d', n', na, nb, e1, e2, e3, e4, e5, e6, e7, e8, e9, e10, e11, hK0 _ (Kp.cp (Kp.n1 e8)) _ _ _ _ H⟩
        · exact id
      | false =>
        dsimp only
        cases Nat.beq a 9997 with
        | true => exact i2F_m (fun _ _ _ H => ⟨H.1, hK1 _ _ _ _ H.2⟩)
        | false =>
        dsimp only
        split
        · exact id
        · exact fun ⟨e1, e2, e3, H⟩ => ⟨e1, e2, e3, hC _ _ _ _ (fun v h kp => hA _ kp _ _ _ _) H⟩
    | invokespecial _ =>
      dsimp only
      cases Nat.beq a 9998 with
      | true => exact r1F_m (fun _ _ H => ⟨H.1, hK1 _ _ _ _ H.2⟩)
      | false =>
        dsimp only
        split
        · exact fun ⟨e1, e2, e3, H⟩ => ⟨e1, e2, e3, hC _ _ _ _ (fun v h kp => hA _ kp _ _ _ _) H⟩
        · exact id
    | invokevirtual _ =>
      dsimp only
      split
      · exact fun ⟨e0, e1, e2, e3, H⟩ => ⟨e0, e1, e2, e3, hC _ _ _ _ (fun v h kp => hA _ kp _ _ _ _) H⟩
      · exact id
    | ireturn =>
      dsimp only
      split
      · split
        · exact hQ _ (fun _ => ⟨_, rfl⟩)
        · exact fun H => ⟨H.1, hQ _ (fun _ => ⟨_, rfl⟩) H.2⟩
        · exact id
      · exact id
    | lreturn =>
      dsimp only
      split
      · exact fun H => ⟨H.1, hQ _ (fun z => by rw [H.1] at z; rcases z with z | z <;> cases z) H.2⟩
      · exact id
    | areturn =>
      dsimp only
      split
      · exact fun H => ⟨H.1, hQ _ (fun z => by rw [H.1] at z; rcases z with z | z <;> cases z) H.2⟩
      · exact id
    | return_ =>
      dsimp only
      split
      · exact fun H => ⟨H.1, hQ _ (fun z => by rw [H.1] at z; rcases z with z | z <;> cases z) H.2⟩
      · exact id
    | _ => exact id
theorem wpE_k {m pc : Nat} {L : sn_L} {st : List Value} {h : sn_H} {c : Nat × Nat} {Q : Option Value → sn_H → Prop} (H : wpE m pc L st h c Q) : wpE m pc L st h c (fun v h' => Kp h h' ∧ Rt m v ∧ Q v h') := by
  refine H (fun m pc L st h c Q => wpE m pc L st h c (fun v h' => Kp h h' ∧ Rt m v ∧ Q v h')) ?_
  intro m pc L st h c Q H
  refine wpE_fold (semF_k (fun h1 k1 _ _ _ _ H1 => wpE_m (fun _ _ z => ⟨k1.tr z.1, z.2⟩) H1) (fun h1 k1 _ _ _ _ H1 => wpE_m (fun _ _ z => ⟨k1.tr z.1, z.2⟩) H1) (fun y as Q1 Q2 h12 H1 => ⟨H1.1, wpE_m (fun v h' z => h12 v h' z.1 z.2.2) H1.2⟩) (fun v r z => ⟨Kp.rf h, r, z⟩) H)
