/-! ===== the Model: findOrder, orderOf ===== -/
theorem bit_z {x : Int32} {k : Nat} (hk : k < 32) : ((x >>> (nI k &&& 31)) &&& nI 1) = 0 ↔ ¬ bitP x k := by
  constructor
  · intro h q
    have q' : ((x >>> (nI k &&& 31)) &&& nI 1) = nI 1 := q
    rw [h] at q'
    exact absurd q'.symm bi_t
  · intro h
    have e0 : bt (x >>> (nI k &&& 31)) 0 = bt x k := by rw [b_sshr k hk x (by omega), if_pos (by omega)]; rfl
    have e1 : bt x k = false := Bool.eq_false_iff.mpr (fun q => h ((bitP_bt hk).mpr q))
    refine b_ext fun i hi => ?_
    rw [b_and, bt_1 i hi, b_0]
    by_cases hi0 : i = 0
    · subst hi0; rw [e0, e1]; rfl
    · simp [hi0]
theorem mask_n : ∀ n, n ≤ 16 → ∀ j, j < 32 → (bitP ((nI 1 <<< (nI n &&& 31)) - nI 1) j ↔ j < n) := by decide +kernel
theorem smN_one {f g : Nat → Nat} {x : Nat} (h1 : ∀ j, j ≠ x → g j = f j) (h2 : g x = f x + 1) : ∀ m i, i ≤ x → x < i + m → smN g m i = smN f m i + 1 := by
  intro m
  induction m with
  | zero => intro i a b; omega
  | succ m ih =>
    intro i a b
    show g i + smN g m (i + 1) = f i + smN f m (i + 1) + 1
    by_cases e : i = x
    · have : smN g m (i + 1) = smN f m (i + 1) := smN_cong m (i + 1) (fun j a b => h1 j (by omega))
      rw [this, e, h2]
      omega
    · rw [h1 i e, ih (i + 1) (by omega) (by omega)]
      omega
theorem smN_c1 : ∀ m i, smN (fun _ => 1) m i = m := by
  intro m
  induction m with
  | zero => intro i; rfl
  | succ m ih => intro i; show 1 + smN (fun _ => 1) m (i + 1) = m + 1; rw [ih]; omega
theorem odN_le {R : Nat → Nat → Bool} {n t : Nat} : odN R n t ≤ n := by
  have := @fstN_le (fun i => !wtB R n (opl R n t) i) n 0
  unfold odN lpN
  omega
theorem odN_new {R : Nat → Nat → Bool} {n t : Nat} (h : odN R n t < n) : opl R n t (odN R n t) = false := by
  have hs : ∃ x, 0 ≤ x ∧ x < 0 + n ∧ (fun i => !wtB R n (opl R n t) i) x = true := by
    apply Classical.byContradiction
    intro q
    have := @fstN_none (fun i => !wtB R n (opl R n t) i) n 0 (fun x a b => Bool.eq_false_iff.mpr (fun z => q ⟨x, a, b, z⟩))
    unfold odN lpN at h
    omega
  obtain ⟨_, _, f3, _⟩ := fstN_some n 0 hs
  have e : fstN (fun i => !wtB R n (opl R n t) i) n 0 = odN R n t := rfl
  rw [e] at f3
  unfold wtB at f3
  cases q : opl R n t (odN R n t) with
  | false => rfl
  | true => rw [q] at f3; exact absurd f3 (by simp)
theorem opl_cnt {R : Nat → Nat → Bool} {n : Nat} : ∀ t, (∀ u, u < t → odN R n u < n) → smN (fun i => b01 (opl R n t i)) n 0 = t := by
  intro t
  induction t with
  | zero =>
    intro _
    have : ∀ m i, smN (fun i => b01 (opl R n 0 i)) m i = 0 := by
      intro m
      induction m with
      | zero => intro i; rfl
      | succ m ih => intro i; show b01 false + smN _ m (i + 1) = 0; rw [ih]; rfl
    exact this n 0
  | succ t ih =>
    intro h
    have hn := h t (Nat.lt_succ_self t)
    have e := smN_one (f := fun i => b01 (opl R n t i)) (g := fun i => b01 (opl R n (t + 1) i)) (x := odN R n t) (fun j hj => by
      show b01 (opl R n t j || decide (j = lpN R n (opl R n t))) = b01 (opl R n t j)
      rw [decide_eq_false (show ¬ j = lpN R n (opl R n t) from hj), Bool.or_false]) (by
      show b01 (opl R n t (odN R n t) || decide (odN R n t = lpN R n (opl R n t))) = b01 (opl R n t (odN R n t)) + 1
      rw [odN_new hn, decide_eq_true (show odN R n t = lpN R n (opl R n t) from rfl)]
      rfl) n 0 (Nat.zero_le _) (by omega)
    rw [e, ih (fun u hu => h u (by omega))]
theorem odN_more {R : Nat → Nat → Bool} {n t : Nat} (h : ∀ u, u < t → odN R n u < n) (h2 : odN R n t < n) : t < n := by
  have a := opl_cnt t h
  have b := smN_lt (f := fun i => b01 (opl R n t i)) (g := fun _ => 1) n 0 (fun j _ _ => b01_le _) ⟨odN R n t, Nat.zero_le _, by omega, by show b01 (opl R n t (odN R n t)) < 1; rw [odN_new h2]; decide⟩
  rw [smN_c1] at b
  omega
theorem fstN_s {p : Nat → Bool} {m i : Nat} : fstN p (m + 1) i = if p i = true then i else fstN p m (i + 1) := rfl
def fo (n f : Nat) : Int32 := if f = n then -(nI 20006) else nI f
theorem fo_n : ∀ n, n ≤ 16 → ∀ f, f ≤ n → (fo n f = -(nI 20006) ↔ f = n) := by decide +kernel
theorem s_M_findOrder {h : sn_H} {m c : Nat} {μ0 : sn_V} {Q : Option Value → sn_H → Prop} (S : MoS h m) (hc : c < 2 ^ 30) (h0 : μ0 1 0 = nI c)
    (H : ∀ μ T, (∀ j k, j ≠ 5 → j ≠ 7 → ¬ (j = 0 ∧ (k = 6 ∨ k = 10)) → μ j k = μ0 j k) → μ 0 10 = nI T → T ≤ min 16 c → (∀ t, t < T → odN (mR μ0 c 0 false (nI 7)) (min 16 c) t < min 16 c) → odN (mR μ0 c 0 false (nI 7)) (min 16 c) T = min 16 c →
      (∀ t, t < T → μ 7 t = nI (mnN c (odN (mR μ0 c 0 false (nI 7)) (min 16 c) t))) → Q none (mpt h m μ)) :
    wpE 150 0 [some (.ref m), none, none, none, none, none, none] [] (mpt h m μ0) (0, 0) Q := by
  refine r_M_findOrder_0 S.1 (s_M_findCommits S hc h0 (fun μ1 g1 g2 g3 => ?_))
  have hR : ∀ a j, a < 17 → j < 17 → (bitP (μ1 5 a) j ↔ mR μ0 c 0 false (nI 7) a j = true) := fun a j ha hj => by
    rw [g3 a j ha (by omega)]
    exact ⟨fun q => q.2, fun q => ⟨hj, q⟩⟩
  revert H hR
  generalize mR μ0 c 0 false (nI 7) = R
  intro H hR
  have hn : min 16 c ≤ 16 := Nat.min_le_left _ _
  have hnc : min 16 c ≤ c := Nat.min_le_right _ _
  generalize hN : min 16 c = n at H hn hnc
  refine r_M_findOrder_6 S.1 ?_
  rw [mpt_set0]
  have kept : ∀ {Q' : Option Value → sn_H → Prop} {μ : sn_V}, (∀ j k, j ≠ 7 → ¬ (j = 0 ∧ k = 10) → μ j k = μ1 j k) → Q' (some (.int (nI n))) (mpt h m μ) → wpE 121 0 [some (.ref m)] [] (mpt h m μ) (0, 0) Q' := fun hμ hq => s_M_keptMany (mpt_A S) hc (by rw [hμ 1 0 (by omega) (by omega), g1 1 0 (by omega) (by omega)]; exact h0) (by rw [hN]; exact hq)
  refine kept (fun j k _ q => up_n q) (r_M_findOrder_16 ?_)
  -- one turn of the loop, t nodes done
  have step : ∀ (t : Nat), (t < n → ∀ (μ : sn_V) (x : Int32), (∀ j k, j ≠ 7 → ¬ (j = 0 ∧ k = 10) → μ j k = μ1 j k) → μ 0 10 = nI (t + 1) → (∀ u, u < t + 1 → odN R n u < n) → (∀ u, u < t + 1 → μ 7 u = nI (mnN c (odN R n u))) → (∀ j, j < 32 → (bitP x j ↔ j < n ∧ opl R n (t + 1) j = false)) →
      wpE 150 22 [some (.ref m), some (.int x), some (.int (nI 1)), none, none, none, none] [] (mpt h m μ) (0, 0) Q) → ∀ (μ : sn_V) (x : Int32), t ≤ n → (∀ j k, j ≠ 7 → ¬ (j = 0 ∧ k = 10) → μ j k = μ1 j k) → μ 0 10 = nI t → (∀ u, u < t → odN R n u < n) → (∀ u, u < t → μ 7 u = nI (mnN c (odN R n u))) → (∀ j, j < 32 → (bitP x j ↔ j < n ∧ opl R n t j = false)) →
      wpE 150 22 [some (.ref m), some (.int x), some (.int (nI 1)), none, none, none, none] [] (mpt h m μ) (0, 0) Q := by
      intro t ih μ x ht hμ h10 hod h7 hx
      refine r_M_findOrder_22 S.1 (fun z => absurd z bi_t) (fun _ => kept hμ (r_M_findOrder_34 ?_))
      have bits : ∀ a, a < n → (((x >>> (nI a &&& 31)) &&& nI 1) = 0 ↔ opl R n t a = true) := fun a ha => by
        rw [bit_z (by omega), hx a (by omega)]
        cases opl R n t a <;> simp [ha]
      have inner : ∀ (k : Nat) (v : Int32), k < n → (∀ w : Int32, w = (if (!wtB R n (opl R n t) k) = true then nI k else v) → wpE 150 38 [some (.ref m), some (.int x), none, some (.int w), some (.int (nI k + -(nI 1))), none, none] [] (mpt h m μ) (0, 0) Q) →
          ∀ (s a : Nat), a + s = n → wpE 150 63 [some (.ref m), some (.int x), none, some (.int v), some (.int (nI k)), some (.int (bi (!opl R n t k && !anyN (fun a => !opl R n t a && R a k) a))), some (.int (nI a))] [] (mpt h m μ) (0, 0) Q := by
        intro k v hk K s
        induction s with
        | zero =>
          intro a ha
          have e : a = n := ha
          subst e
          refine r_M_findOrder_63 S.1 (kept hμ ?_)
          have ew : (!wtB R a (opl R a t) k) = (!opl R a t k && !anyN (fun b => !opl R a t b && R b k) a) := by unfold wtB; rw [Bool.not_or]
          rw [← ew]
          have nn : ∀ {P : Prop}, ¬ nI a ≤ nI a → P := fun z => absurd (Int32.le_refl _) z
          refine r_M_findOrder_69 S.1 S.f5.1 S.f5.2 (fun _ z => ?_) (fun _ z => ?_) nn nn nn nn nn
          · exact K v (by rw [bi_0 z]; rfl)
          · exact K (nI k) (by rw [bi_n0 z]; rfl)
        | succ s ihs =>
          intro a ha
          have w := ihs (a + 1) (by omega)
          have es : (!opl R n t k && !anyN (fun a => !opl R n t a && R a k) (a + 1)) = ((!opl R n t k && !anyN (fun a => !opl R n t a && R a k) a) && !(!opl R n t a && R a k)) := by rw [anyN, Bool.not_or, Bool.and_assoc]
          rw [es] at w
          generalize (!opl R n t k && !anyN (fun a => !opl R n t a && R a k) a) = z at w ⊢
          refine r_M_findOrder_63 S.1 (kept hμ ?_)
          have g5 : hG (mpt h m μ) (m + 5) (nI a).toNatClampNeg = μ1 5 a := by rw [cl (by omega), mpt_get (by decide), hμ 5 a (by omega) (by omega)]
          have fin : ∀ t' : Bool, (z && !(!opl R n t a && R a k)) = t' → wpE 150 63 [some (.ref m), some (.int x), none, some (.int v), some (.int (nI k)), some (.int (bi t')), some (.int (nI a + nI 1))] [] (mpt h m μ) (0, 0) Q := by
            rintro _ rfl
            rw [nI_s]
            exact w
          refine r_M_findOrder_69 S.1 S.f5.1 S.f5.2 (fun y => absurd y (nI_ge (by omega) (by omega))) (fun y => absurd y (nI_ge (by omega) (by omega))) (fun _ y => fin false (by rw [bi_0 y]; rfl)) (fun _ y y2 => fin true ?_) (fun _ _ _ => inb (by omega)) (fun _ y y2 y3 => fin false ?_) (fun _ y y2 y3 => fin true ?_)
          · rw [bits a (by omega)] at y2
            rw [bi_n0 y, y2]; rfl
          · rw [bits a (by omega)] at y2
            rw [g5, bit_z (by omega), Classical.not_not, hR a k (by omega) (by omega)] at y3
            rw [bi_n0 y, Bool.eq_false_iff.mpr y2, y3]; rfl
          · rw [g5, bit_z (by omega), hR a k (by omega) (by omega)] at y3
            rw [bi_n0 y, Bool.eq_false_iff.mpr y3, Bool.and_false]; rfl
      suffices ∀ (s k : Nat), k ≤ n → s = k → wpE 150 38 [some (.ref m), some (.int x), none, some (.int (fo n (fstN (fun i => !wtB R n (opl R n t) i) (n - k) k))), some (.int (nI k - nI 1)), none, none] [] (mpt h m μ) (0, 0) Q from by
        have := this n n (Nat.le_refl _) rfl
        rw [Nat.sub_self] at this
        have e : fo n (fstN (fun i => !wtB R n (opl R n t) i) 0 n) = -(nI 20006) := if_pos rfl
        rw [e] at this
        exact this
      intro s
      induction s with
      | zero => ?_
      | succ s ihs => ?_
      rotate_left
      · intro k hk hks
        subst hks
        rw [pk_sub (by omega), show s + 1 - 1 = s by omega]
        have nl : ¬ nI s < 0 := nI_pos (by omega)
        have step := inner s (fo n (fstN (fun i => !wtB R n (opl R n t) i) (n - (s + 1)) (s + 1))) (by omega) (fun w hw => by
          have w2 := ihs s (by omega) rfl
          have e : fo n (fstN (fun i => !wtB R n (opl R n t) i) (n - s) s) = w := by
            rw [hw, show n - s = (n - (s + 1)) + 1 by omega, fstN_s]
            by_cases q : (!wtB R n (opl R n t) s) = true
            · rw [if_pos q, if_pos q]; unfold fo; rw [if_neg (by omega)]
            · rw [if_neg q, if_neg q]
          rw [e, Int32.sub_eq_add_neg] at w2
          exact w2) n 0 (Nat.zero_add _)
        refine r_M_findOrder_38 S.1 S.f7.1 (fun z => absurd z nl) (fun z => absurd z nl) (fun _ z => ?_) (fun _ z => ?_)
        · have z1 := (bit_z (by omega)).mpr z
          rw [bits s (by omega)] at z1
          rw [z1] at step
          exact step
        · have z1 : opl R n t s = false := ((hx s (by omega)).mp z).2
          rw [z1] at step
          exact step
      · intro k hk hks
        rw [← hks, Nat.sub_zero]
        have e : fstN (fun i => !wtB R n (opl R n t) i) n 0 = odN R n t := rfl
        rw [e]
        have le := @odN_le R n t
        have e1 : (nI 0 : Int32) - nI 1 < 0 := by decide
        refine r_M_findOrder_38 S.1 S.f7.1 (fun _ z => ?_) (fun _ z => ?_) (fun z => absurd e1 z) (fun z => absurd e1 z)
        · rw [fo_n n hn _ le] at z
          refine r_M_findOrder_22 S.1 (fun _ => ?_) (fun y => absurd bi_f y)
          exact H μ t (fun j k p q r => by rw [hμ j k q (by omega), g1 j k p (by omega)]) h10 (by omega) hod z h7
        · rw [fo_n n hn _ le] at z
          have lt : odN R n t < n := by omega
          have tn := odN_more hod lt
          unfold fo
          rw [if_neg z]
          refine s_M_numberOf (mpt_A S) hc (by omega) (by rw [hμ 1 0 (by omega) (by omega), g1 1 0 (by omega) (by omega)]; exact h0) ?_
          refine r_M_findOrder_162 S.f7.2 S.1 (by rw [mpt_get0, h10]; exact inb (by omega)) ?_
          rw [mpt_get0, h10, cl (by omega : t < 2 ^ 31), mpt_set (by decide), mpt_get0, up_n (by omega), h10, mpt_set0, nI_s]
          refine ih tn _ _ (fun j k p q => by rw [up_n q, up_n (by omega)]; exact hμ j k p q) up_s (lt_s hod lt) (fun u hu => ?_) (fun j hj => ?_)
          · rw [up_n (by omega)]
            by_cases q : u = t
            · rw [q, up_s]
            · rw [up_n (by omega)]; exact h7 u (by omega)
          · rw [bitP_clr (by omega) hj, hx j hj]
            have eo : opl R n (t + 1) j = (opl R n t j || decide (j = odN R n t)) := rfl
            rw [eo, Bool.or_eq_false_iff, decide_eq_false_iff_not]
            constructor
            · rintro ⟨⟨a, b⟩, d⟩; exact ⟨a, b, d⟩
            · rintro ⟨a, b, d⟩; exact ⟨⟨a, b⟩, d⟩
  have main : ∀ (r t : Nat) (μ : sn_V) (x : Int32), t + r = n → (∀ j k, j ≠ 7 → ¬ (j = 0 ∧ k = 10) → μ j k = μ1 j k) → μ 0 10 = nI t → (∀ u, u < t → odN R n u < n) → (∀ u, u < t → μ 7 u = nI (mnN c (odN R n u))) → (∀ j, j < 32 → (bitP x j ↔ j < n ∧ opl R n t j = false)) →
      wpE 150 22 [some (.ref m), some (.int x), some (.int (nI 1)), none, none, none, none] [] (mpt h m μ) (0, 0) Q := by
    intro r
    induction r with
    | zero => exact fun t μ x ht => step t (fun q => absurd q (by omega)) μ x (by omega)
    | succ r ih => exact fun t μ x ht => step t (fun _ μ' x' => ih (t + 1) μ' x' (by omega)) μ x (by omega)
  refine main n 0 _ _ (Nat.zero_add _) (fun j k _ q => up_n q) up_s (fun u hu => absurd hu (Nat.not_lt_zero u)) (fun u hu => absurd hu (Nat.not_lt_zero u)) (fun j hj => ?_)
  rw [mask_n n hn j hj]
  exact ⟨fun q => ⟨q, rfl⟩, fun q => q.1⟩
theorem s_M_orderOf {h : sn_H} {m c T i : Nat} {μ : sn_V} {Q : Option Value → sn_H → Prop} (S : MoS h m) (hc : c < 2 ^ 30) (h0 : μ 1 0 = nI c) (h10 : μ 0 10 = nI T) (hT : T ≤ 16) (hi : i < 2 ^ 31)
    (H : Q (some (.int (if T = min 16 c ∧ i < T then μ 7 i else -(nI 20006)))) (mpt h m μ)) :
    wpE 151 0 [some (.ref m), some (.int (nI i))] [] (mpt h m μ) (0, 0) Q := by
  have e10 : hG (mpt h m μ) m 10 = nI T := by rw [mpt_get0]; exact h10
  refine r_M_orderOf_0 S.1 (s_M_keptMany (mpt_A S) hc h0 ?_)
  have hn : min 16 c ≤ 16 := Nat.min_le_left _ _
  rw [e10]
  refine r_M_orderOf_8 S.1 S.f7.1 S.f7.2 (fun z => ?_) (fun z y => ?_) (fun z y => ?_) (fun z y => ?_)
  · rw [nI_eq (by omega) (by omega)] at z
    rw [if_neg (fun q => z q.1)] at H
    exact H
  · rw [e10, nI_leI (by omega) hi] at y
    rw [if_neg (fun q => by omega)] at H
    exact H
  · rw [e10, nI_leI (by omega) hi] at y
    exact inb (by omega)
  · rw [nI_eq (by omega) (by omega)] at z
    rw [e10, nI_leI (by omega) hi] at y
    rw [if_pos ⟨z, by omega⟩] at H
    rw [cl hi, mpt_get (by decide)]
    exact H
