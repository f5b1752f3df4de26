/-! ===== the law's small methods: cell, low, version, value, part ===== -/
theorem bit_01 (y : Int32) : (y &&& nI 1) = nI 0 ∨ (y &&& nI 1) = nI 1 := by
  rw [pk_and y 1 (show (nI 1).toBitVec.toNat = 2 ^ 1 - 1 from rfl)]
  have : y.toBitVec.toNat % 2 ^ 1 = 0 ∨ y.toBitVec.toNat % 2 ^ 1 = 1 := by omega
  rcases this with e | e
  · exact Or.inl (by rw [e])
  · exact Or.inr (by rw [e])
theorem bit_n0 {x : Int32} {k : Nat} : ((x >>> (nI k &&& 31)) &&& nI 1) = 0 ↔ ¬ bitP x k := by
  have h10 : ¬ (nI 0 : Int32) = nI 1 := by decide
  rcases bit_01 (x >>> (nI k &&& 31)) with e | e
  · exact ⟨fun _ z => h10 (e.symm.trans z), fun _ => e.trans nI_0⟩
  · exact ⟨fun z => absurd (e.symm.trans z) bi_t, fun z => absurd e z⟩
def Ar1 (h : sn_H) (p n : Nat) (f : Nat → Int32) : Prop := hK h p = (1, 0, n) ∧ ∀ k, hG h p k = f k
theorem c0 : (nI 0).toNatClampNeg = 0 := cl (by omega)
theorem c1' : (nI 1).toNatClampNeg = 1 := cl (by omega)
theorem s_L_cell {h : sn_H} {L : Nat} {scr : Nat → Int32} {j : Nat} {Q : Option Value → sn_H → Prop} (La : LaS h L scr) (hL : L ≤ 260) (hj : j ≤ 100) (H : ∀ x, Q (some (.int x)) h) : wpE 48 0 [some (.ref 0), some (.int (nI j))] [] h (0, 0) Q := by
  refine r_L_cell_0 La.1 (fun _ => H _) (fun z => ?_) (fun _ => H _)
  rw [nI_leI (by omega) (by omega)] at z
  exact inb (by omega)
theorem s_L_low {h : sn_H} {x : Int32} {n : Nat} {Q : Option Value → sn_H → Prop} (h0 : 0 < n) (hn : n < 2 ^ 31) (H : ∀ r, r < n → Q (some (.int (nI r))) h) : wpE 49 0 [some (.int x), some (.int (nI n))] [] h (0, 0) Q := by
  refine r_L_low_0 (fun z => ?_) ?_
  · rw [← nI_0] at z
    have := (nI_eq hn (by omega)).mp z
    omega
  obtain ⟨j, hj, e⟩ := pk_andE x (m := nI 2147483647) 31 (by decide)
  rw [e, pk_rem hj h0 hn]
  exact H _ (Nat.mod_lt _ h0)
/-- the version of a key as of a number -/
def verN (cc : Nat → Int32) (k : Nat) : Nat → Nat
  | 0 => 0
  | n + 1 => if bitP (cc (32 + (n + 1))) k then n + 1 else verN cc k n
theorem verN_s {cc : Nat → Int32} {k n : Nat} : verN cc k (n + 1) = if bitP (cc (32 + (n + 1))) k then n + 1 else verN cc k n := rfl
theorem verN_le {cc : Nat → Int32} {k : Nat} : ∀ n, verN cc k n ≤ n := by
  intro n
  induction n with
  | zero => exact Nat.le_refl _
  | succ n ih => rw [verN_s]; split <;> omega
theorem verN_cg {cc cc' : Nat → Int32} {k : Nat} : ∀ n, (∀ m, 1 ≤ m → m ≤ n → cc' (32 + m) = cc (32 + m)) → verN cc' k n = verN cc k n := by
  intro n
  induction n with
  | zero => intro _; rfl
  | succ n ih =>
    intro h
    rw [verN_s, verN_s, ih (fun m a b => h m a (by omega)), h (n + 1) (by omega) (Nat.le_refl _)]
def valN (cc v : Nat → Int32) (k n : Nat) : Int32 := if verN cc k n = 0 then nI 0 else v (4 * verN cc k n + k)
theorem valN_cg {cc cc' v v' : Nat → Int32} {k n : Nat} (h : ∀ m, 1 ≤ m → m ≤ n → cc' (32 + m) = cc (32 + m)) (h2 : ∀ m, 1 ≤ m → m ≤ n → v' (4 * m + k) = v (4 * m + k)) : valN cc' v' k n = valN cc v k n := by
  unfold valN
  rw [verN_cg n h]
  by_cases e : verN cc k n = 0
  · rw [if_pos e, if_pos e]
  · rw [if_neg e, if_neg e, h2 _ (by omega) (verN_le n)]
theorem s_L_version {h : sn_H} {pc k n : Nat} {cc : Nat → Int32} {Q : Option Value → sn_H → Prop} (C : Ar1 h pc 48 cc) (hn : n ≤ 15) (H : Q (some (.int (nI (verN cc k n)))) h) : wpE 52 0 [some (.int (nI k)), some (.int (nI n)), some (.ref pc), none, none] [] h (0, 0) Q := by
  refine r_L_version_0 ?_
  suffices ∀ m i, i + m = n → wpE 52 5 [some (.int (nI k)), some (.int (nI n)), some (.ref pc), some (.int (nI (verN cc k i))), some (.int (nI (i + 1)))] [] h (0, 0) Q from this n 0 (Nat.zero_add _)
  intro m
  induction m with
  | zero =>
    intro i hi
    have e : i = n := hi
    subst e
    have l : nI i < nI (i + 1) := nI_lt (by omega) (by omega)
    exact r_L_version_5 C.1 (fun _ => H) (fun z => absurd l z) (fun z => absurd l z) (fun z => absurd l z)
  | succ m ih =>
    intro i hi
    have h9 := ih (i + 1) (by omega)
    have ec : hG h pc (nI 32 + nI (i + 1)).toNatClampNeg = cc (32 + (i + 1)) := by rw [nI_add, cl (by omega), C.2]
    refine r_L_version_5 C.1 (fun z => absurd z (nI_nlt (by omega) (by omega))) (fun _ => by rw [nI_add]; exact inb (by omega)) (fun _ z => ?_) (fun _ z => ?_)
    · rw [ec] at z
      rw [nI_s]
      rw [verN_s, if_neg z] at h9
      exact h9
    · rw [ec] at z
      rw [nI_s]
      rw [verN_s, if_pos z] at h9
      exact h9
theorem s_L_value {h : sn_H} {pc pv k n : Nat} {cc v : Nat → Int32} {Q : Option Value → sn_H → Prop} (C : Ar1 h pc 48 cc) (V : Ar1 h pv 64 v) (hk : k < 4) (hn : n ≤ 15) (H : Q (some (.int (valN cc v k n))) h) : wpE 57 0 [some (.int (nI k)), some (.int (nI n)), some (.ref pc), some (.ref pv), none] [] h (0, 0) Q := by
  have l := @verN_le cc k n
  refine r_L_value_0 (s_L_version C hn ?_)
  unfold valN at H
  refine r_L_value_6 V.1 (fun _ => ?_) (fun z => ?_) (fun z => ?_)
  · rw [pk_mul, nI_add]; exact inb (by omega)
  · rw [if_neg (fun e => z (by rw [e, nI_0]))] at H
    rw [pk_mul, nI_add, cl (by omega), V.2]
    exact H
  · have e : verN cc k n = 0 := (nI_eq (by omega) (by omega)).mp (z.trans nI_0.symm)
    rw [if_pos e] at H
    exact H
/-- a part of a node: of a commit, or of the transaction that stands behind the commits -/
def prt (c : Nat) (cc tt : Nat → Int32) (w a : Nat) : Int32 := if a ≤ c then cc (16 * w + a) else tt w
def SL (c n : Nat) (sl : Int32) (t tt : Nat → Int32) : Prop := (n = c ∧ sl = -(nI 1)) ∨ (n = c + 1 ∧ ∃ i, i < 4 ∧ sl = nI i ∧ ∀ w, w < 3 → tt w = t (3 * i + w))
def LQ (h : sn_H) (pq pc pt : Nat) (q cc t : Nat → Int32) (c : Nat) : Prop := Ar1 h pq 12 q ∧ Ar1 h pc 48 cc ∧ Ar1 h pt 28 t ∧ q 0 = nI c ∧ c ≤ 15
theorem LQ.g0 {h : sn_H} {pq pc pt c : Nat} {q cc t : Nat → Int32} (A : LQ h pq pc pt q cc t c) : hG h pq (nI 0).toNatClampNeg = nI c := by rw [c0, A.1.2]; exact A.2.2.2.1
theorem s_L_part {h : sn_H} {pq pc pt c n a w : Nat} {q cc t tt : Nat → Int32} {sl : Int32} {Q : Option Value → sn_H → Prop} (A : LQ h pq pc pt q cc t c) (S : SL c n sl t tt) (ha : a ≤ n) (hw : w < 3) (H : Q (some (.int (prt c cc tt w a))) h) :
    wpE 55 0 [some (.int (nI a)), some (.int sl), some (.int (nI w)), some (.ref pq), some (.ref pc), some (.ref pt)] [] h (0, 0) Q := by
  have e0 := A.g0
  have c15 := A.2.2.2.2
  have hn : n ≤ c + 1 := by rcases S with z | z <;> omega
  unfold prt at H
  refine r_L_part_0 A.1.1 A.2.1.1 A.2.2.1.1 (inb (by omega)) (fun z => ?_) (fun z => ?_) (fun z => ?_) (fun z => ?_)
  · rw [e0, nI_leI (by omega) (by omega)] at z
    rw [pk_mul, nI_add]; exact inb (by omega)
  · rw [e0, nI_leI (by omega) (by omega)] at z
    rw [if_pos z] at H
    rw [pk_mul, nI_add, cl (by omega), A.2.1.2]
    exact H
  · rw [e0, nI_leI (by omega) (by omega)] at z
    rcases S with y | ⟨_, i, hi, e, _⟩
    · omega
    · rw [e, pk_mul, nI_add]; exact inb (by omega)
  · rw [e0, nI_leI (by omega) (by omega)] at z
    rw [if_neg z] at H
    rcases S with y | ⟨_, i, hi, e, et⟩
    · omega
    · rw [e, pk_mul, nI_add, cl (by omega), A.2.2.1.2, ← et w hw]
      exact H
/-! depends -/
def lB1 (P : Nat → Nat → Int32) (a b : Nat) : Bool := decide (a < b) && decide (¬ (P 2 a &&& P 2 b) = 0)
def lB2 (P : Nat → Nat → Int32) (cc : Nat → Int32) (sp : Nat → Nat) (a b n : Nat) : Bool := anyN (fun k => (decide (bitP (P 2 a) k) && decide (bitP (P 1 b) k)) && decide (verN cc k (sp b) = a)) n
def lB3 (P : Nat → Nat → Int32) (cc : Nat → Int32) (sp : Nat → Nat) (a b n : Nat) : Bool := anyN (fun k => (decide (bitP (P 1 a) k) && decide (bitP (P 2 b) k)) && decide (verN cc k (sp a) < b)) n
def lS (P : Nat → Nat → Int32) (cc : Nat → Int32) (sp : Nat → Nat) (a b : Nat) : Int32 := dV (lB1 P a b) (lB2 P cc sp a b 4) (lB3 P cc sp a b 4)
theorem bi_0 {b : Bool} : bi b = 0 ↔ b = false := by cases b <;> simp [bi, nI_0, bi_t]
theorem bi_d {p : Prop} [Decidable p] (h : p) : nI 1 = bi (decide p) := by rw [decide_eq_true h]; rfl
theorem bi_n {p : Prop} [Decidable p] (h : ¬ p) : nI 0 = bi (decide p) := by rw [decide_eq_false h]; rfl
set_option maxHeartbeats 1000000 in
theorem s_L_depends {h : sn_H} {pq pc pt c n a b : Nat} {q cc t tt : Nat → Int32} {sp : Nat → Nat} {sl : Int32} {Q : Option Value → sn_H → Prop} (A : LQ h pq pc pt q cc t c) (S : SL c n sl t tt)
    (hsp : ∀ x, 1 ≤ x → x ≤ n → prt c cc tt 0 x = nI (sp x) ∧ sp x ≤ 15) (ha : 1 ≤ a ∧ a ≤ n) (hb : 1 ≤ b ∧ b ≤ n) (H : Q (some (.int (lS (prt c cc tt) cc sp a b))) h) :
    wpE 54 0 [some (.int (nI a)), some (.int (nI b)), some (.int sl), some (.ref pq), some (.ref pc), some (.ref pt), none, none, none, none, none, none] [] h (0, 0) Q := by
  have c15 := A.2.2.2.2
  have hn : n ≤ c + 1 := by rcases S with z | z <;> omega
  obtain ⟨ea, la⟩ := hsp a ha.1 ha.2
  obtain ⟨eb, lb⟩ := hsp b hb.1 hb.2
  have loop : ∀ x, lB1 (prt c cc tt) a b = x → ∀ m k, k + m = 4 → wpE 54 43 [some (.int (nI a)), some (.int (nI b)), some (.int sl), some (.ref pq), some (.ref pc), some (.ref pt), some (.int (dV x (lB2 (prt c cc tt) cc sp a b k) (lB3 (prt c cc tt) cc sp a b k))), some (.int (nI k)), none, none, none, none] [] h (0, 0) Q := by
    intro x hx m
    induction m with
    | zero =>
      intro k hk
      have e : k = 4 := hk
      subst e
      refine r_L_depends_43 (fun _ => ?_) (fun z => absurd (Int32.le_refl _) z)
      unfold lS at H
      rw [hx] at H
      exact H
    | succ m ih =>
      intro k hk
      have t2 : lB2 (prt c cc tt) cc sp a b (k + 1) = (lB2 (prt c cc tt) cc sp a b k || ((decide (bitP (prt c cc tt 2 a) k) && decide (bitP (prt c cc tt 1 b) k)) && decide (verN cc k (sp b) = a))) := rfl
      have t3 : lB3 (prt c cc tt) cc sp a b (k + 1) = (lB3 (prt c cc tt) cc sp a b k || ((decide (bitP (prt c cc tt 1 a) k) && decide (bitP (prt c cc tt 2 b) k)) && decide (verN cc k (sp a) < b))) := rfl
      have g233 : ∀ V, V = dV x (lB2 (prt c cc tt) cc sp a b (k + 1)) (lB3 (prt c cc tt) cc sp a b (k + 1)) → wpE 54 233 [some (.int (nI a)), some (.int (nI b)), some (.int sl), some (.ref pq), some (.ref pc), some (.ref pt), some (.int V), some (.int (nI k)), none, none, none, none] [] h (0, 0) Q := by
        rintro V rfl
        refine r_L_depends_233 ?_
        rw [nI_s]
        exact ih (k + 1) (by omega)
      have g195 : ∀ V, V = dV x (lB2 (prt c cc tt) cc sp a b (k + 1)) (lB3 (prt c cc tt) cc sp a b k) → wpE 54 195 [some (.int (nI a)), some (.int (nI b)), some (.int sl), some (.ref pq), some (.ref pc), some (.ref pt), some (.int V), some (.int (nI k)), some (.int (bi (decide (bitP (prt c cc tt 1 a) k)))), none, none, some (.int (bi (decide (bitP (prt c cc tt 2 b) k))))] [] h (0, 0) Q := by
        rintro V rfl
        refine r_L_depends_195 (fun z => ?_) (fun _ z => ?_) (fun z1 z2 => ?_)
        · rw [bi_0] at z
          refine g233 _ ?_
          rw [t3, z, Bool.false_and, Bool.false_and, Bool.or_false]
        · rw [bi_0] at z
          refine g233 _ ?_
          rw [t3, z, Bool.and_false, Bool.false_and, Bool.or_false]
        · rw [bi_0, Bool.not_eq_false] at z1 z2
          refine s_L_part A S ha.2 (by omega) ?_
          rw [ea]
          refine r_L_depends_218 (s_L_version A.2.1 la ?_)
          have := @verN_le cc k (sp a)
          refine r_L_depends_223 (fun z => ?_) (fun z => ?_)
          · rw [nI_leI (by omega) (by omega)] at z
            refine g233 _ ?_
            rw [t3, decide_eq_false (p := verN cc k (sp a) < b) (by omega), Bool.and_false, Bool.or_false]
          · rw [nI_leI (by omega) (by omega)] at z
            refine g233 _ ?_
            rw [dV_4, t3, z1, z2, decide_eq_true (p := verN cc k (sp a) < b) (by omega), Bool.and_self, Bool.and_self, Bool.or_true]
      have g157 : ∀ V, V = bi (decide (bitP (prt c cc tt 2 b) k)) → wpE 54 157 [some (.int (nI a)), some (.int (nI b)), some (.int sl), some (.ref pq), some (.ref pc), some (.ref pt), some (.int (dV x (lB2 (prt c cc tt) cc sp a b k) (lB3 (prt c cc tt) cc sp a b k))), some (.int (nI k)), some (.int (bi (decide (bitP (prt c cc tt 1 a) k)))), some (.int (bi (decide (bitP (prt c cc tt 1 b) k)))), some (.int (bi (decide (bitP (prt c cc tt 2 a) k)))), some (.int V)] [] h (0, 0) Q := by
        rintro V rfl
        refine r_L_depends_157 (fun z => ?_) (fun _ z => ?_) (fun z1 z2 => ?_)
        · rw [bi_0] at z
          refine g195 _ ?_
          rw [t2, z, Bool.false_and, Bool.false_and, Bool.or_false]
        · rw [bi_0] at z
          refine g195 _ ?_
          rw [t2, z, Bool.and_false, Bool.false_and, Bool.or_false]
        · rw [bi_0, Bool.not_eq_false] at z1 z2
          refine s_L_part A S hb.2 (by omega) ?_
          rw [eb]
          refine r_L_depends_180 (s_L_version A.2.1 lb ?_)
          have := @verN_le cc k (sp b)
          refine r_L_depends_185 (fun z => ?_) (fun z => ?_)
          · rw [nI_eq (by omega) (by omega)] at z
            refine g195 _ ?_
            rw [t2, decide_eq_false (p := verN cc k (sp b) = a) z, Bool.and_false, Bool.or_false]
          · rw [nI_eq (by omega) (by omega)] at z
            refine g195 _ ?_
            rw [dV_2, t2, z1, z2, decide_eq_true (p := verN cc k (sp b) = a) z, Bool.and_self, Bool.and_self, Bool.or_true]
      have g141 : ∀ V, V = bi (decide (bitP (prt c cc tt 2 a) k)) → wpE 54 141 [some (.int (nI a)), some (.int (nI b)), some (.int sl), some (.ref pq), some (.ref pc), some (.ref pt), some (.int (dV x (lB2 (prt c cc tt) cc sp a b k) (lB3 (prt c cc tt) cc sp a b k))), some (.int (nI k)), some (.int (bi (decide (bitP (prt c cc tt 1 a) k)))), some (.int (bi (decide (bitP (prt c cc tt 1 b) k)))), some (.int V), none] [.int (prt c cc tt 2 b)] h (0, 0) Q := by
        rintro V rfl
        refine r_L_depends_141 (fun z => ?_) (fun z => ?_)
        · exact g157 _ (bi_n z)
        · exact g157 _ (bi_d z)
      have g114 : ∀ V, V = bi (decide (bitP (prt c cc tt 1 b) k)) → wpE 54 114 [some (.int (nI a)), some (.int (nI b)), some (.int sl), some (.ref pq), some (.ref pc), some (.ref pt), some (.int (dV x (lB2 (prt c cc tt) cc sp a b k) (lB3 (prt c cc tt) cc sp a b k))), some (.int (nI k)), some (.int (bi (decide (bitP (prt c cc tt 1 a) k)))), some (.int V), none, none] [.int (prt c cc tt 2 a)] h (0, 0) Q := by
        rintro V rfl
        refine r_L_depends_114 (fun z => ?_) (fun z => ?_)
        · exact s_L_part A S hb.2 (by omega) (g141 _ (bi_n z))
        · exact s_L_part A S hb.2 (by omega) (g141 _ (bi_d z))
      have g87 : ∀ V, V = bi (decide (bitP (prt c cc tt 1 a) k)) → wpE 54 87 [some (.int (nI a)), some (.int (nI b)), some (.int sl), some (.ref pq), some (.ref pc), some (.ref pt), some (.int (dV x (lB2 (prt c cc tt) cc sp a b k) (lB3 (prt c cc tt) cc sp a b k))), some (.int (nI k)), some (.int V), none, none, none] [.int (prt c cc tt 1 b)] h (0, 0) Q := by
        rintro V rfl
        refine r_L_depends_87 (fun z => ?_) (fun z => ?_)
        · exact s_L_part A S ha.2 (by omega) (g114 _ (bi_n z))
        · exact s_L_part A S ha.2 (by omega) (g114 _ (bi_d z))
      refine r_L_depends_43 (fun z => absurd z (nI_ge (by omega) (by omega))) (fun _ => s_L_part A S ha.2 (by omega) ?_)
      refine r_L_depends_60 (fun z => ?_) (fun z => ?_)
      · exact s_L_part A S hb.2 (by omega) (g87 _ (bi_n z))
      · exact s_L_part A S hb.2 (by omega) (g87 _ (bi_d z))
  have z0 : ∀ x, dV x (lB2 (prt c cc tt) cc sp a b 0) (lB3 (prt c cc tt) cc sp a b 0) = if x then nI 1 else nI 0 := fun x => by
    show dV x false false = _
    cases x <;> decide
  refine r_L_depends_0 (fun z => ?_) (fun z => ?_)
  · rw [nI_leI (by omega) (by omega)] at z
    have h9 := loop false (by unfold lB1; rw [decide_eq_false (by omega), Bool.false_and]) 4 0 rfl
    rw [z0] at h9
    exact h9
  · rw [nI_leI (by omega) (by omega)] at z
    refine s_L_part A S ha.2 (by omega) ?_
    refine r_L_depends_19 (s_L_part A S hb.2 (by omega) ?_)
    refine r_L_depends_30 (fun y => ?_) (fun y => ?_)
    · have h9 := loop false (by unfold lB1; rw [decide_eq_false (p := ¬ (prt c cc tt 2 a &&& prt c cc tt 2 b) = 0) (fun w => w y), Bool.and_false]) 4 0 rfl
      rw [z0] at h9
      exact h9
    · have h9 := loop true (by unfold lB1; rw [decide_eq_true (p := ¬ (prt c cc tt 2 a &&& prt c cc tt 2 b) = 0) y, decide_eq_true (by omega)]; rfl) 4 0 rfl
      rw [z0] at h9
      exact h9
