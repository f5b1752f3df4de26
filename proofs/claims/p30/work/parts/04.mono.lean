/-! ===== what the machine of places says grows with what is asked; a stretch of code is enough ===== -/
theorem ldF_m {L : sn_L} {i : Nat} {k k' : Value → Prop} (h : ∀ v, k v → k' v) : ldF L i k → ldF L i k' := by
  unfold ldF; split
  · exact h _
  · exact id
theorem kF_m {a b : Nat} {k k' : Int32 → Prop} (h : ∀ v, k v → k' v) : kF a b k → kF a b k' := by
  unfold kF; split
  · exact h _
  · exact h _
theorem kF_d {a b : Nat} {k : Int32 → Prop} (h : kF a b k) : k (kI a b) := by
  cases b with
  | zero => exact h
  | succ b => exact h
theorem i1F_m {st : List Value} {k k' : Int32 → List Value → Prop} (h : ∀ x r, k x r → k' x r) : i1F st k → i1F st k' := by
  unfold i1F; split
  · exact h _ _
  · exact id
theorem i2F_m {st : List Value} {k k' : Int32 → Int32 → List Value → Prop} (h : ∀ x y r, k x y r → k' x y r) : i2F st k → i2F st k' := by
  unfold i2F; split
  · exact h _ _ _
  · exact id
theorem l2F_m {st : List Value} {k k' : Int64 → Int64 → List Value → Prop} (h : ∀ x y r, k x y r → k' x y r) : l2F st k → l2F st k' := by
  unfold l2F; split
  · exact h _ _ _
  · exact id
theorem r1F_m {st : List Value} {k k' : Nat → List Value → Prop} (h : ∀ x r, k x r → k' x r) : r1F st k → r1F st k' := by
  unfold r1F; split
  · exact h _ _
  · exact id
theorem v1F_m {st : List Value} {k k' : Value → List Value → Prop} (h : ∀ x r, k x r → k' x r) : v1F st k → v1F st k' := by
  unfold v1F; split
  · exact h _ _
  · exact id
theorem irF_m {st : List Value} {k k' : Int32 → Nat → List Value → Prop} (h : ∀ x y r, k x y r → k' x y r) : irF st k → irF st k' := by
  unfold irF; split
  · exact h _ _ _
  · exact id
theorem virF_m {st : List Value} {k k' : Value → Int32 → Nat → List Value → Prop} (h : ∀ v x y r, k v x y r → k' v x y r) : virF st k → virF st k' := by
  unfold virF; split
  · exact h _ _ _ _
  · exact id
theorem brF_m {cc : ClassFile.Cond} {x y : Int32} {t f t' f' : Prop} (h1 : t → t') (h2 : f → f') : brF cc x y t f → brF cc x y t' f' := by
  cases cc <;> exact fun H => ⟨fun q => by first | exact h1 (H.1 q) | exact h2 (H.1 q), fun q => by first | exact h2 (H.2 q) | exact h1 (H.2 q)⟩
theorem tswF_m {x : Int32} {K K' : Int → Prop} (h : ∀ o, K o → K' o) : ∀ (l : List Int) (lo : Int), tswF x lo K l → tswF x lo K' l
  | [], _, _ => trivial
  | _ :: l, lo, H => ⟨fun q => h _ (H.1 q), tswF_m h l (lo + 1) H.2⟩
theorem lswF_m {x : Int32} {d : Int} {K K' : Int → Prop} (h : ∀ o, K o → K' o) : ∀ (l : List (Int × Int)), lswF x d K l → lswF x d K' l
  | [], H => h _ H
  | _ :: l, H => ⟨fun q => h _ (H.1 q), fun q => lswF_m h l (H.2 q)⟩
set_option maxHeartbeats 4000000 in
theorem semF_m {K KA K' KA' : Nat → sn_L → List Value → sn_H → Nat × Nat → Prop} {C C' : Nat → List Value → sn_H → (Option Value → sn_H → Prop) → Prop} {Q Q' : Option Value → sn_H → Prop} {m pc : Nat} {L : sn_L} {st : List Value} {h : sn_H} {c : Nat × Nat}
    (hK1 : ∀ pc L st h c, K pc L st h c → K' pc L st h c) (hA : ∀ pc L st h c, KA pc L st h c → KA' pc L st h c)
    (hC : ∀ y as h (Q1 Q2 : Option Value → sn_H → Prop), (∀ v h, Q1 v h → Q2 v h) → C y as h Q1 → C' y as h Q2) (hQ : ∀ v h, Q v h → Q' v h) :
    semF K KA C Q m pc L st h c → semF K' KA' C' Q' m pc L st h c := by
  unfold semF
  split
  · exact id
  · rename_i i a b _
    have ld : ∀ {pc' : Nat} {i : Nat} {f : Value → Prop} {f' : Value → Prop}, (∀ v, f v → f' v) → ldF L i f → ldF L i f' := fun h => ldF_m h
    cases i with
    | iconst _ => exact kF_m (fun _ => hK1 _ _ _ _ _)
    | bipush _ => exact kF_m (fun _ => hK1 _ _ _ _ _)
    | sipush _ => exact kF_m (fun _ => hK1 _ _ _ _ _)
    | ldc _ => exact kF_m (fun _ => hK1 _ _ _ _ _)
    | ldc_w _ => exact kF_m (fun _ => hK1 _ _ _ _ _)
    | ldc2_w _ => exact hK1 _ _ _ _ _
    | iload_n _ => exact ldF_m (fun v H => by cases v <;> first | exact hK1 _ _ _ _ _ H | exact H)
    | iload _ => exact ldF_m (fun v H => by cases v <;> first | exact hK1 _ _ _ _ _ H | exact H)
    | lload_n _ => exact ldF_m (fun v H => by cases v <;> first | exact hK1 _ _ _ _ _ H | exact H)
    | lload _ => exact ldF_m (fun v H => by cases v <;> first | exact hK1 _ _ _ _ _ H | exact H)
    | aload_n _ => exact ldF_m (fun v H => by cases v <;> first | exact hK1 _ _ _ _ _ H | exact H)
    | aload _ => exact ldF_m (fun v H => by cases v <;> first | exact hK1 _ _ _ _ _ H | exact H)
    | istore_n _ => exact i1F_m (fun x r H => ⟨H.1, hK1 _ _ _ _ _ H.2⟩)
    | istore _ => exact i1F_m (fun x r H => ⟨H.1, hK1 _ _ _ _ _ H.2⟩)
    | astore_n _ => exact r1F_m (fun x r H => ⟨H.1, hK1 _ _ _ _ _ H.2⟩)
    | astore _ => exact r1F_m (fun x r H => ⟨H.1, hK1 _ _ _ _ _ H.2⟩)
    | lstore_n _ => exact v1F_m (fun v r H => by cases v <;> first | exact ⟨H.1, hK1 _ _ _ _ _ H.2⟩ | exact H)
    | lstore _ => exact v1F_m (fun v r H => by cases v <;> first | exact ⟨H.1, hK1 _ _ _ _ _ H.2⟩ | exact H)
    | iinc _ _ => exact ldF_m (fun v H => by cases v <;> first | exact ⟨H.1, kF_m (fun _ => hK1 _ _ _ _ _) H.2⟩ | exact H)
    | iadd => exact i2F_m (fun _ _ _ H => hK1 _ _ _ _ _ H)
    | isub => exact i2F_m (fun _ _ _ H => hK1 _ _ _ _ _ H)
    | imul => exact i2F_m (fun _ _ _ H => hK1 _ _ _ _ _ H)
    | irem => exact i2F_m (fun _ _ _ H => ⟨H.1, hK1 _ _ _ _ _ H.2⟩)
    | iand => exact i2F_m (fun _ _ _ H => hK1 _ _ _ _ _ H)
    | ior => exact i2F_m (fun _ _ _ H => hK1 _ _ _ _ _ H)
    | ixor => exact i2F_m (fun _ _ _ H => hK1 _ _ _ _ _ H)
    | ishl => exact i2F_m (fun _ _ _ H => hK1 _ _ _ _ _ H)
    | ishr => exact i2F_m (fun _ _ _ H => hK1 _ _ _ _ _ H)
    | iushr => exact i2F_m (fun _ _ _ H => hK1 _ _ _ _ _ H)
    | ineg => exact i1F_m (fun _ _ H => hK1 _ _ _ _ _ H)
    | i2l => exact i1F_m (fun _ _ H => hK1 _ _ _ _ _ H)
    | i2c => exact i1F_m (fun _ _ H => hK1 _ _ _ _ _ H)
    | ladd => exact l2F_m (fun _ _ _ H => hK1 _ _ _ _ _ H)
    | lmul => exact l2F_m (fun _ _ _ H => hK1 _ _ _ _ _ H)
    | lcmp => exact l2F_m (fun _ _ _ H => hK1 _ _ _ _ _ H)
    | dup => exact v1F_m (fun _ _ H => ⟨H.1, hK1 _ _ _ _ _ H.2⟩)
    | pop => exact v1F_m (fun _ _ H => ⟨H.1, hK1 _ _ _ _ _ H.2⟩)
    | dup2 => exact v1F_m (fun _ _ => v1F_m (fun _ _ H => ⟨H.1, H.2.1, hK1 _ _ _ _ _ H.2.2⟩))
    | goto _ => exact hK1 _ _ _ _ _
    | ifCond _ _ => exact i1F_m (fun _ _ => brF_m (hK1 _ _ _ _ _) (hK1 _ _ _ _ _))
    | if_icmp _ _ => exact i2F_m (fun _ _ _ => brF_m (hK1 _ _ _ _ _) (hK1 _ _ _ _ _))
    | tableswitch _ _ _ _ => exact i1F_m (fun _ _ H => ⟨tswF_m (fun _ => hK1 _ _ _ _ _) _ _ H.1, fun q => hK1 _ _ _ _ _ (H.2 q)⟩)
    | lookupswitch _ _ => exact i1F_m (fun _ _ => lswF_m (fun _ => hK1 _ _ _ _ _) _)
    | getfield _ => exact r1F_m (fun p r H => ⟨H.1, by
        have H2 := H.2
        revert H2
        cases sn_fR a b
        · exact hK1 _ _ _ _ _
        · exact fun ⟨q, e, H⟩ => ⟨q, e, hK1 _ _ _ _ _ H⟩⟩)
    | putfield _ => exact v1F_m (fun v _ => r1F_m (fun p r H => ⟨H.1, by
        have H2 := H.2
        revert H2
        cases v <;> first | exact fun H => ⟨H.1, hK1 _ _ _ _ _ H.2⟩ | exact id⟩))
    | iaload => exact irF_m (fun _ _ _ ⟨x, n, e, f, H⟩ => ⟨x, n, e, f, hK1 _ _ _ _ _ H⟩)
    | caload => exact irF_m (fun _ _ _ ⟨n, e, f, H⟩ => ⟨n, e, f, hK1 _ _ _ _ _ H⟩)
    | aaload => exact irF_m (fun _ _ _ ⟨ci, n, q, e, f, g, H⟩ => ⟨ci, n, q, e, f, g, hK1 _ _ _ _ _ H⟩)
    | iastore => exact virF_m (fun v _ _ _ => by cases v <;> first | exact fun ⟨n, e, f, H⟩ => ⟨n, e, f, hK1 _ _ _ _ _ H⟩ | exact id)
    | castore => exact virF_m (fun v _ _ _ => by cases v <;> first | exact fun ⟨n, e, f, H⟩ => ⟨n, e, f, hK1 _ _ _ _ _ H⟩ | exact id)
    | aastore => exact virF_m (fun v _ _ _ => by cases v <;> first | exact fun ⟨ci, n, e, f, g, H⟩ => ⟨ci, n, e, f, g, hK1 _ _ _ _ _ H⟩ | exact id)
    | arraylength => exact r1F_m (fun _ _ ⟨x, n, e, H⟩ => ⟨x, n, e, hK1 _ _ _ _ _ H⟩)
    | new _ => exact fun H => ⟨H.1, H.2.1, hK1 _ _ _ _ _ H.2.2⟩
    | newarray _ => exact i1F_m (fun _ _ ⟨n, e, f, g, k, H⟩ => ⟨n, e, f, g, k, hK1 _ _ _ _ _ H⟩)
    | anewarray _ => exact i1F_m (fun _ _ ⟨n, e, f, g, k, H⟩ => ⟨n, e, f, g, k, hK1 _ _ _ _ _ H⟩)
    | invokestatic _ =>
      dsimp only
      cases Nat.beq a 9999 with
      | true =>
        dsimp only
        split
        · exact fun ⟨s', d', n', na, nb, e1, e2, e3, e4, e5, e6, e7, e8, e9, e10, e11, H⟩ => ⟨s', d', n', na, nb, e1, e2, e3, e4, e5, e6, e7, e8, e9, e10, e11, hK1 _ _ _ _ _ H⟩
        · exact id
      | false =>
        dsimp only
        cases Nat.beq a 9997 with
        | true => exact i2F_m (fun _ _ _ H => ⟨H.1, hK1 _ _ _ _ _ H.2⟩)
        | false =>
        dsimp only
        split
        · exact id
        · exact fun ⟨e1, e2, e3, H⟩ => ⟨e1, e2, e3, hC _ _ _ _ _ (fun v h => hA _ _ _ _ _) H⟩
    | invokespecial _ =>
      dsimp only
      cases Nat.beq a 9998 with
      | true => exact r1F_m (fun _ _ H => ⟨H.1, hK1 _ _ _ _ _ H.2⟩)
      | false =>
        dsimp only
        split
        · exact fun ⟨e1, e2, e3, H⟩ => ⟨e1, e2, e3, hC _ _ _ _ _ (fun v h => hA _ _ _ _ _) H⟩
        · exact id
    | invokevirtual _ =>
      dsimp only
      split
      · exact fun ⟨e0, e1, e2, e3, H⟩ => ⟨e0, e1, e2, e3, hC _ _ _ _ _ (fun v h => hA _ _ _ _ _) H⟩
      · exact id
    | ireturn =>
      dsimp only
      split
      · split
        · exact hQ _ _
        · exact fun H => ⟨H.1, hQ _ _ H.2⟩
        · exact id
      · exact id
    | lreturn =>
      dsimp only
      split
      · exact fun H => ⟨H.1, hQ _ _ H.2⟩
      · exact id
    | areturn =>
      dsimp only
      split
      · exact fun H => ⟨H.1, hQ _ _ H.2⟩
      · exact id
    | return_ =>
      dsimp only
      split
      · exact fun H => ⟨H.1, hQ _ _ H.2⟩
      · exact id
    | _ => exact id
theorem wpE_m {m pc : Nat} {L : sn_L} {st : List Value} {h : sn_H} {c : Nat × Nat} {Q Q' : Option Value → sn_H → Prop} (hQ : ∀ v h, Q v h → Q' v h) (H : wpE m pc L st h c Q) : wpE m pc L st h c Q' := by
  intro P hP
  refine H (fun m pc L st h c Q => ∀ Q', (∀ v h, Q v h → Q' v h) → P m pc L st h c Q') ?_ Q' hQ
  intro m pc L st h c Q H Q' hQ
  exact hP m pc L st h c Q' (semF_m (fun _ _ _ _ _ H => H Q' hQ) (fun _ _ _ _ _ H => H Q' hQ) (fun y as h Q1 Q2 h12 H => ⟨H.1, H.2 Q2 h12⟩) hQ H)
theorem wpE_fold {m pc : Nat} {L : sn_L} {st : List Value} {h : sn_H} {c : Nat × Nat} {Q : Option Value → sn_H → Prop}
    (H : semF (fun pc L st h c => wpE m pc L st h c Q) (fun pc L st h c => wpE m pc L st h c Q) (fun y as h Q' => (slL as).length ≤ sn_mL y ∧ wpE y 0 (entL y as) [] h (0, 0) Q') Q m pc L st h c) : wpE m pc L st h c Q := by
  intro P hP
  exact hP m pc L st h c Q (semF_m (fun _ _ _ _ _ H => H P hP) (fun _ _ _ _ _ H => H P hP) (fun y as h Q1 Q2 h12 H => ⟨H.1, wpE_m h12 H.2 P hP⟩) (fun _ _ => id) H)
theorem vc_s {ct : Nat → Bool} {m : Nat} {Q : Option Value → sn_H → Prop} : ∀ (n : Nat) (b : Bool) {pc : Nat} {L : sn_L} {st : List Value} {h : sn_H} {c : Nat × Nat}, vcN ct m Q n b pc L st h c → wpE m pc L st h c Q
  | 0, _, _, _, _, _, _, H => H
  | n + 1, b, pc, L, st, h, c, H => by
    unfold vcN at H
    split at H
    · exact H
    · exact wpE_fold (semF_m (fun _ _ _ _ _ => vc_s n true) (fun _ _ _ _ _ => id) (fun y as h Q1 Q2 h12 H => ⟨H.1, wpE_m h12 H.2⟩) (fun _ _ => id) H)
