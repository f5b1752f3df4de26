/-! ===== orders and rings; the lowest that fits; counts ===== -/
theorem wk_last {R : Nat → Nat → Bool} {n i j : Nat} (hR : ∀ x y, R x y = true → x < n ∧ y < n) (h : Wk R n i j) : ∃ b, b < n ∧ R b j = true ∧ (b = i ∨ Wk R n i b) :=
  Wk.ind (P := fun i => ∃ b, b < n ∧ R b j = true ∧ (b = i ∨ Wk R n i b)) (fun i q => ⟨i, (hR _ _ q).1, q, Or.inl rfl⟩) (fun i a q ha w ⟨b, b1, b2, b3⟩ => ⟨b, b1, b2, Or.inr (b3.elim (fun e => by rw [e]; exact Wk.one q) (fun w => Wk.cons q ha w))⟩) h
theorem od_p {R : Nat → Nat → Bool} {n t : Nat} (h : odN R n t < n) : wtB R n (opl R n t) (odN R n t) = false := by
  by_cases q : ∃ x, 0 ≤ x ∧ x < 0 + n ∧ (fun i => !wtB R n (opl R n t) i) x = true
  · obtain ⟨_, _, a, _⟩ := @fstN_some (fun i => !wtB R n (opl R n t) i) n 0 q
    have a : (!wtB R n (opl R n t) (odN R n t)) = true := a
    rw [Bool.not_eq_true'] at a
    exact a
  · have := @fstN_none (fun i => !wtB R n (opl R n t) i) n 0 (fun x a b => Bool.eq_false_iff.mpr (fun z => q ⟨x, a, b, z⟩))
    have e : odN R n t = 0 + n := this
    omega
theorem od_all {R : Nat → Nat → Bool} {n t : Nat} (h : odN R n t = n) : ∀ i, i < n → wtB R n (opl R n t) i = true := by
  intro i hi
  cases z : wtB R n (opl R n t) i with
  | true => rfl
  | false =>
    obtain ⟨_, a, _, _⟩ := @fstN_some (fun i => !wtB R n (opl R n t) i) n 0 ⟨i, Nat.zero_le _, by omega, by show (!wtB R n (opl R n t) i) = true; rw [z]; rfl⟩
    have e : odN R n t < 0 + n := a
    omega
theorem pl_n {R : Nat → Nat → Bool} {n t : Nat} (h : ∀ u, u < t → odN R n u < n) (h2 : ∀ i, i < n → opl R n t i = true) : t = n := by
  rw [← opl_cnt t h, smN_cong (g := fun _ => 1) n 0 (fun j _ b => by rw [h2 j (by omega)]; rfl), smN_c1]
theorem ord_noring {R : Nat → Nat → Bool} {n : Nat} (hR : ∀ x y, R x y = true → x < n ∧ y < n) (h : ∀ t, t < n → odN R n t < n) : ∀ i, i < n → wal R n i i = false := by
  have D : ∀ t, t ≤ n → ∀ j, j < n → opl R n t j = true → ¬ Wk R n j j := by
    intro t
    induction t with
    | zero => intro _ j _ o; exact absurd o (by show ¬ false = true; decide)
    | succ t ih =>
      intro ht j hj o w
      have o : (opl R n t j || decide (j = odN R n t)) = true := o
      rw [Bool.or_eq_true, decide_eq_true_iff] at o
      rcases o with o | o
      · exact ih (by omega) j hj o w
      · have wt := od_p (h t (by omega))
        rw [← o] at wt
        unfold wtB at wt
        rw [Bool.or_eq_false_iff] at wt
        obtain ⟨b, b1, b2, b3⟩ := wk_last hR w
        have ob : opl R n t b = true := by
          cases z : opl R n t b with
          | true => rfl
          | false =>
            have : anyN (fun a => !opl R n t a && R a j) n = true := anyN_t.mpr ⟨b, b1, by rw [z, b2]; rfl⟩
            rw [wt.2] at this
            exact absurd this (by decide)
        refine ih (by omega) b b1 ob ?_
        rcases b3 with e | e
        · rw [e]; exact w
        · exact Wk.cons b2 hj e
  have full : ∀ i, i < n → opl R n n i = true := by
    intro i hi
    cases z : opl R n n i with
    | true => rfl
    | false =>
      have e := opl_cnt n h
      have l := smN_lt (f := fun i => b01 (opl R n n i)) (g := fun _ => 1) n 0 (fun j _ _ => b01_le _) ⟨i, Nat.zero_le _, by omega, by show b01 (opl R n n i) < 1; rw [z]; exact Nat.zero_lt_one⟩
      rw [smN_c1, e] at l
      omega
  intro i hi
  cases z : wal R n i i with
  | false => rfl
  | true => exact absurd (wal_Wk n (Nat.le_refl n) i i z) (D n (Nat.le_refl n) i hi (full i hi))
theorem ord_ok {R : Nat → Nat → Bool} {n : Nat} (hR : ∀ x y, R x y = true → x < n ∧ y < n) (hno : ∀ i, i < n → wal R n i i = false) : ∀ t, t < n → odN R n t < n := by
  intro t
  induction t using Nat.strongRecOn with
  | ind t ih =>
    intro ht
    apply Classical.byContradiction
    intro bad
    have le := @odN_le R n t
    have e : odN R n t = n := by omega
    have before : ∀ u, u < t → odN R n u < n := fun u hu => ih u hu (by omega)
    have nowk : ∀ i, i < n → ¬ Wk R n i i := fun i hi w => by
      have := Wk_wal w
      rw [hno i hi] at this
      exact absurd this (by decide)
    have pred : ∀ i, i < n → opl R n t i = false → ∃ a, a < n ∧ opl R n t a = false ∧ R a i = true := by
      intro i hi o
      have w := od_all e i hi
      unfold wtB at w
      rw [o, Bool.false_or] at w
      obtain ⟨a, a1, a2⟩ := anyN_t.mp w
      rw [Bool.and_eq_true, Bool.not_eq_true'] at a2
      exact ⟨a, a1, a2.1, a2.2⟩
    have claim : ∀ m i, i < n → opl R n t i = false → smN (fun x => b01 (!opl R n t x && wal R n x i)) n 0 ≤ m → False := by
      intro m
      induction m with
      | zero =>
        intro i hi o hm
        obtain ⟨a, a1, a2, a3⟩ := pred i hi o
        have l := smN_lt (f := fun _ => 0) (g := fun x => b01 (!opl R n t x && wal R n x i)) n 0 (fun _ _ _ => Nat.zero_le _) ⟨a, Nat.zero_le _, by omega, by
          show 0 < b01 (!opl R n t a && wal R n a i)
          rw [a2, Wk_wal (Wk.one a3)]; exact Nat.zero_lt_one⟩
        omega
      | succ m ihm =>
        intro i hi o hm
        obtain ⟨a, a1, a2, a3⟩ := pred i hi o
        have l := smN_lt (f := fun x => b01 (!opl R n t x && wal R n x a)) (g := fun x => b01 (!opl R n t x && wal R n x i)) n 0 (fun j _ _ => by
          cases z : wal R n j a with
          | false => rw [Bool.and_false]; exact Nat.zero_le _
          | true => rw [Wk_wal (Wk.tr (wal_Wk n (Nat.le_refl n) j a z) a1 (Wk.one a3))]; exact Nat.le_refl _) ⟨a, Nat.zero_le _, by omega, by
          show b01 (!opl R n t a && wal R n a a) < b01 (!opl R n t a && wal R n a i)
          rw [a2, hno a a1, Wk_wal (Wk.one a3)]; exact Nat.zero_lt_one⟩
        exact ihm a a1 a2 (by omega)
    by_cases q : ∃ i, i < n ∧ opl R n t i = false
    · obtain ⟨i, hi, o⟩ := q
      exact claim _ i hi o (Nat.le_refl _)
    · have := pl_n before (fun i hi => by
        cases z : opl R n t i with
        | true => rfl
        | false => exact absurd ⟨i, hi, z⟩ q)
      omega
theorem rc_0 {R : Nat → Nat → Bool} {n : Nat} : rcN R n = 0 ↔ ∀ i, i < n → wal R n i i = false := by
  unfold rcN
  constructor
  · intro h i hi
    cases z : wal R n i i with
    | false => rfl
    | true =>
      have l := smN_lt (f := fun _ => 0) (g := fun i => b01 (wal R n i i)) n 0 (fun _ _ _ => Nat.zero_le _) ⟨i, Nat.zero_le _, by omega, by show 0 < b01 (wal R n i i); rw [z]; exact Nat.zero_lt_one⟩
      omega
  · intro h
    rw [smN_cong (g := fun _ => 0) n 0 (fun j _ b => by rw [h j (by omega)]; rfl)]
    have := @smN_le (fun _ => 0) 0 (fun _ => Nat.le_refl 0) n 0
    omega
theorem rc_le {R : Nat → Nat → Bool} {n : Nat} : rcN R n ≤ n := by
  have := @smN_le (fun i => b01 (wal R n i i)) 1 (fun _ => b01_le _) n 0
  unfold rcN
  omega
/-- the lowest of c .. b + 1 that fits, 0 if none -/
def LOW (p : Nat → Bool) (c b r : Nat) : Prop := (r = 0 ∧ ∀ x, b < x → x ≤ c → p x = false) ∨ (b < r ∧ r ≤ c ∧ p r = true ∧ ∀ x, b < x → x < r → p x = false)
theorem LOW.init {p : Nat → Bool} {c : Nat} : LOW p c c 0 := Or.inl ⟨rfl, fun x a b => by omega⟩
theorem LOW.le {p : Nat → Bool} {c b r : Nat} (h : LOW p c b r) : r ≤ c := by rcases h with ⟨a, _⟩ | ⟨_, a, _⟩ <;> omega
theorem LOW.yes {p : Nat → Bool} {c b : Nat} (hb : b + 1 ≤ c) (h : p (b + 1) = true) : LOW p c b (b + 1) := Or.inr ⟨by omega, hb, h, fun x a b => by omega⟩
theorem LOW.no {p : Nat → Bool} {c b r : Nat} (l : LOW p c (b + 1) r) (h : p (b + 1) = false) : LOW p c b r := by
  rcases l with ⟨a, l⟩ | ⟨a1, a2, a3, l⟩
  · refine Or.inl ⟨a, fun x x1 x2 => ?_⟩
    by_cases e : x = b + 1
    · rw [e]; exact h
    · exact l x (by omega) x2
  · refine Or.inr ⟨by omega, a2, a3, fun x x1 x2 => ?_⟩
    by_cases e : x = b + 1
    · rw [e]; exact h
    · exact l x (by omega) x2
theorem fstN_eq {p : Nat → Bool} {n i : Nat} (hi : i < n) (h : p i = true) (h2 : ∀ x, x < i → p x = false) : fstN p n 0 = i := by
  obtain ⟨_, _, a, b⟩ := @fstN_some p n 0 ⟨i, Nat.zero_le _, by omega, h⟩
  rcases Nat.lt_trichotomy (fstN p n 0) i with q | q | q
  · rw [h2 _ q] at a; exact absurd a (by decide)
  · exact q
  · rw [b i (Nat.zero_le _) q] at h; exact absurd h (by decide)
theorem LOW.fst {p : Nat → Bool} {c r : Nat} (l : LOW p c 0 r) : (r = 0 ∧ fstN (fun i => p (i + 1)) c 0 = c) ∨ (r = fstN (fun i => p (i + 1)) c 0 + 1 ∧ fstN (fun i => p (i + 1)) c 0 < c) := by
  rcases l with ⟨a, l⟩ | ⟨a1, a2, a3, l⟩
  · refine Or.inl ⟨a, ?_⟩
    have := @fstN_none (fun i => p (i + 1)) c 0 (fun x x1 x2 => l (x + 1) (by omega) (by omega))
    omega
  · have e : fstN (fun i => p (i + 1)) c 0 = r - 1 := fstN_eq (by omega) (by show p (r - 1 + 1) = true; rw [show r - 1 + 1 = r by omega]; exact a3) (fun x hx => l (x + 1) (by omega) (by omega))
    exact Or.inr ⟨by omega, by omega⟩
/-- what the law asks of a number that may come next -/
def pG (gone : Int32) (R : Nat → Nat → Bool) (c n x : Nat) : Bool := !decide (bitP gone x) && !anyN (fun a => !decide (bitP gone (a + 1)) && R a (x - 1)) n
theorem pG_wt {gone : Int32} {R : Nat → Nat → Bool} {c t i : Nat} (hi : i < c) (h : ∀ b, 1 ≤ b → b ≤ c → (bitP gone b ↔ opl R c t (b - 1) = true)) : pG gone R c c (i + 1) = !wtB R c (opl R c t) i := by
  have e : ∀ a, a < c → decide (bitP gone (a + 1)) = opl R c t a := fun a ha => by
    rw [Bool.eq_iff_iff, decide_eq_true_iff, h (a + 1) (by omega) (by omega), Nat.add_sub_cancel]
  unfold pG wtB
  rw [e i hi, Bool.not_or, Nat.add_sub_cancel]
  congr 2
  exact anyN_cg (fun a ha => by rw [e a ha])
/-- the next one of the order, as the law finds it -/
theorem LOW.nx {gone : Int32} {R : Nat → Nat → Bool} {c t r : Nat} (l : LOW (pG gone R c c) c 0 r) (h : ∀ b, 1 ≤ b → b ≤ c → (bitP gone b ↔ opl R c t (b - 1) = true)) : (r = 0 ∧ odN R c t = c) ∨ (r = odN R c t + 1 ∧ odN R c t < c) := by
  have e : fstN (fun i => pG gone R c c (i + 1)) c 0 = odN R c t := by
    unfold odN lpN
    have cg : ∀ m i, i + m ≤ c → fstN (fun i => pG gone R c c (i + 1)) m i = fstN (fun i => !wtB R c (opl R c t) i) m i := by
      intro m
      induction m with
      | zero => intro i _; rfl
      | succ m ih =>
        intro i hi
        rw [fstN_s, fstN_s, pG_wt (show i < c by omega) h, ih (i + 1) (by omega)]
    exact cg c 0 (by omega)
  have := l.fst
  rw [e] at this
  exact this
/-- open slots -/
def opN (σ : sn_V) (k : Nat) : Nat := smN (fun i => b01 (decide (bitP (σ 0 3) i))) k 0
theorem opN_s {σ : sn_V} {k : Nat} : opN σ (k + 1) = opN σ k + b01 (decide (bitP (σ 0 3) k)) := by
  unfold opN
  rw [smN_last, Nat.zero_add]
theorem bc_op : ∀ w, w < 16 → bcI (nI w) = nI (smN (fun i => b01 (decide (bitP (nI w) i))) 4 0) := by decide +kernel
theorem PR.bc {c : Nat} {σ : sn_V} {q cc v t : Nat → Int32} (R : PR c σ q cc v t) : bcI (σ 0 3) = nI (opN σ 4) := by
  obtain ⟨w, a, b⟩ := R.op
  unfold opN
  rw [b]
  exact bc_op w a
/-- skews, pair by pair -/
def skT (O : Nat → Nat → Bool) (a b : Nat) : Nat := smN (fun j => b01 (O (a - 1) j && O j (a - 1))) (b - a) a
theorem skT_lo {O : Nat → Nat → Bool} {a b : Nat} (h : b + 1 ≤ a) : skT O a (b + 1) = skT O a b := by
  unfold skT
  rw [show b + 1 - a = 0 by omega, show b - a = 0 by omega]
theorem skT_hi {O : Nat → Nat → Bool} {a b : Nat} (h : a ≤ b) : skT O a (b + 1) = skT O a b + b01 (O (a - 1) b && O b (a - 1)) := by
  unfold skT
  rw [show b + 1 - a = b - a + 1 by omega, smN_last, show a + (b - a) = b by omega]
theorem skT_0 {O : Nat → Nat → Bool} {a b : Nat} (h : b ≤ a) : skT O a b = 0 := by
  unfold skT
  rw [show b - a = 0 by omega]
  rfl
theorem skT_end {O : Nat → Nat → Bool} {a c : Nat} (h : 1 ≤ a) : skT O a c = skN O c (a - 1) := by
  unfold skT skN
  rw [show a - 1 + 1 = a by omega]
theorem dV_44 (x y z x' y' z' : Bool) : ((dV x y z &&& dV x' y' z') &&& nI 4) = 0 ↔ (z && z') = false := by cases x <;> cases y <;> cases z <;> cases x' <;> cases y' <;> cases z' <;> decide
theorem PR.gko {c : Nat} {σ : sn_V} {q cc v t : Nat → Int32} (R : PR c σ q cc v t) (tt : Nat → Int32) {a b : Nat} (a1 : 1 ≤ a) (a2 : a ≤ c) (b1 : 1 ≤ b) (b2 : b ≤ c) (ab : ¬ a = b) : lB3 (prt c cc tt) cc (spN (prt c cc tt)) a b 4 = gOk σ c (a - 1) (b - 1) := by
  have h := lR_gO (by have := R.c15; have := R.m16; omega) (R.nodes tt)
  have e : lR c (lS (prt c cc tt) cc (spN (prt c cc tt))) (nI 4) = sh (gOk σ c) := by
    rw [R.m16] at h
    unfold gOk
    rw [R.m16]
    exact h
  have e2 : gOk σ c (a - 1) (b - 1) = sh (gOk σ c) a b := by
    rw [Bool.eq_iff_iff, sh_t]
    exact ⟨fun z => ⟨a1, b1, z⟩, fun z => z.2.2⟩
  rw [e2, ← e, Bool.eq_iff_iff, lR_t]
  unfold lS
  rw [dV_0, Bool.not_eq_false]
  exact ⟨fun z => ⟨⟨a1, a2⟩, ⟨b1, b2⟩, ab, z⟩, fun z => z.2.2.2⟩
theorem PR.sk {c : Nat} {σ : sn_V} {q cc v t : Nat → Int32} (R : PR c σ q cc v t) (tt : Nat → Int32) {a b : Nat} (a1 : 1 ≤ a) (a2 : a ≤ c) (b1 : 1 ≤ b) (b2 : b ≤ c) (ab : ¬ a = b) : ((lS (prt c cc tt) cc (spN (prt c cc tt)) a b &&& lS (prt c cc tt) cc (spN (prt c cc tt)) b a) &&& nI 4) = 0 ↔ (gOk σ c (a - 1) (b - 1) && gOk σ c (b - 1) (a - 1)) = false := by
  rw [← R.gko tt a1 a2 b1 b2 ab, ← R.gko tt b1 b2 a1 a2 (fun e => ab e.symm)]
  exact dV_44 _ _ _ _ _ _
