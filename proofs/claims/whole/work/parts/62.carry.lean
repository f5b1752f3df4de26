/-! ===== carryOut: the class ===== -/
def EndL (x : Nat) : Prop := x = 97 ∨ x = 98 ∨ x = 99 ∨ x = 114 ∨ x = 119
/-- what a step that begins at p looks like -/
def StpT (tx : Nat → Nat) (n p : Nat) : Prop := EndL (tx p) ∧ (p + 1 < n ∧ 48 ≤ tx (p + 1) ∧ tx (p + 1) ≤ 55) ∧ ((tx p = 114 ∨ tx p = 119) → p + 2 < n ∧ 97 ≤ tx (p + 2) ∧ tx (p + 2) ≤ 108) ∧ (tx p = 119 → p + 4 ≤ n)
theorem st_of {tx : Nat → Nat} {n p : Nat} (hp : p < n) (e : feG tx (n - p) 0 p = none) : StpT tx n p ∧ ∃ q, StpOk tx n p q := by
  have nn : ∀ {i}, feG tx (n - p) 0 p = some i → False := fun z => by rw [e] at z; cases z
  have hl : EndL (tx p) := by
    apply Classical.byContradiction
    intro z
    have e12 : aw 0 (tx p) = 12 := by
      show (if tx p = 97 ∨ tx p = 98 ∨ tx p = 99 then 1 else if tx p = 114 then 2 else if tx p = 119 then 4 else 12) = 12
      unfold EndL at z
      rw [if_neg (by omega), if_neg (by omega), if_neg (by omega)]
    exact nn (fe_stop (by omega) (by omega) (fun _ => e12))
  have hl' := hl
  unfold EndL at hl'
  have hs : p + 1 < n ∧ 48 ≤ tx (p + 1) ∧ tx (p + 1) ≤ 55 := by
    apply Classical.byContradiction
    intro z
    have c : tx p = 114 ∨ tx p = 119 ∨ (tx p = 97 ∨ tx p = 98 ∨ tx p = 99) := by omega
    rcases c with l | l | l
    · exact nn ((fe_go (tx := tx) (a := 0) (b := 2) hp (by rw [l]; rfl) (by decide)).trans (fe_stop (by omega) (by omega) (fun u => (aw_12 (fun y => z ⟨u, y⟩)).2.1)))
    · exact nn ((fe_go (tx := tx) (a := 0) (b := 4) hp (by rw [l]; rfl) (by decide)).trans (fe_stop (by omega) (by omega) (fun u => (aw_12 (fun y => z ⟨u, y⟩)).2.2)))
    · exact nn ((fe_go (tx := tx) (a := 0) (b := 1) hp (show aw 0 (tx p) = 1 from if_pos l) (by decide)).trans (fe_stop (by omega) (by omega) (fun u => (aw_12 (fun y => z ⟨u, y⟩)).1)))
  obtain ⟨c1, c2, c4⟩ := aw_sl hs.2
  by_cases l : tx p = 97 ∨ tx p = 98 ∨ tx p = 99
  · have e1 := (fe_go (tx := tx) (a := 0) (b := 1) hp (show aw 0 (tx p) = 1 from if_pos l) (by decide)).trans (fe_go hs.1 c1 (by decide))
    refine ⟨⟨hl, hs, fun z => by omega, fun z => by omega⟩, p + 2, by omega, by omega, ⟨11, ⟨by omega, by omega, fun _ w => aw_11 w⟩, e1⟩, fun i x y => ?_⟩
    have : i = p ∨ i = p + 1 := by omega
    rcases this with rfl | rfl <;> omega
  · by_cases l4 : tx p = 114
    · have e1 := (fe_go (tx := tx) (a := 0) (b := 2) hp (by rw [l4]; rfl) (by decide)).trans (fe_go hs.1 c2 (by decide))
      have hk : p + 2 < n ∧ 97 ≤ tx (p + 2) ∧ tx (p + 2) ≤ 108 := by
        apply Classical.byContradiction
        intro z
        exact nn (e1.trans (fe_stop (by omega) (by omega) (fun u => (aw_kn (x := tx (p + 2)) (fun y => z ⟨u, y⟩)).1)))
      refine ⟨⟨hl, hs, fun _ => hk, fun z => by omega⟩, p + 3, by omega, by omega, ⟨11, ⟨by omega, by omega, fun _ w => aw_11 w⟩, e1.trans (fe_go hk.1 (aw_ky hk.2).1 (by decide))⟩, fun i x y => ?_⟩
      have : i = p ∨ i = p + 1 ∨ i = p + 2 := by omega
      rcases this with rfl | rfl | rfl <;> omega
    · have l9 : tx p = 119 := by omega
      have e1 := (fe_go (tx := tx) (a := 0) (b := 4) hp (by rw [l9]; rfl) (by decide)).trans (fe_go hs.1 c4 (by decide))
      have hk : p + 2 < n ∧ 97 ≤ tx (p + 2) ∧ tx (p + 2) ≤ 108 := by
        apply Classical.byContradiction
        intro z
        exact nn (e1.trans (fe_stop (by omega) (by omega) (fun u => (aw_kn (x := tx (p + 2)) (fun y => z ⟨u, y⟩)).2)))
      have e2 := e1.trans (fe_go hk.1 (aw_ky hk.2).2 (by decide))
      have hq : p + 3 < n ∧ tx (p + 3) = 61 := by
        apply Classical.byContradiction
        intro z
        exact nn (e2.trans (fe_stop (a := 6) (by omega : p + 3 ≤ n) (by omega) (fun u => if_neg (fun y => z ⟨u, y⟩))))
      have e3 := e2.trans (fe_go (b := 7) hq.1 (by rw [hq.2]; rfl) (by decide))
      obtain ⟨v1, v2, v3, v4⟩ := @fe_val tx n (p + 4) (by omega)
      by_cases dd : fsN tx n (p + 4) < (vD tx n 3 (fsN tx n (p + 4)) 0).2
      · obtain ⟨w0, w1, a, w2, w3⟩ := v3 dd
        refine ⟨⟨hl, hs, fun _ => hk, fun _ => by omega⟩, _, by omega, w1, ⟨a, w2, e3.trans w3⟩, fun i x y => ?_⟩
        by_cases c : p + 4 ≤ i
        · exact v4 i c y
        · have : i = p ∨ i = p + 1 ∨ i = p + 2 ∨ i = p + 3 := by omega
          rcases this with rfl | rfl | rfl | rfl <;> omega
      · exact (nn (e3.trans (v2 dd).2)).elim
/-- the step behind the one that begins at i -/
def nxP (tx : Nat → Nat) : Nat → Nat → Nat
  | 0, i => i
  | m + 1, i => if tx i = 59 then i + 1 else nxP tx m (i + 1)
theorem nxP_eq {tx : Nat → Nat} {q : Nat} : ∀ m i, i + m = q → ∀ r, (∀ j, i ≤ j → j < q → tx j ≠ 59) → nxP tx (m + r) i = nxP tx r q := by
  intro m
  induction m with
  | zero => intro i hi r _; rw [Nat.zero_add, show i = q from hi]
  | succ m ih =>
    intro i hi r h
    rw [show m + 1 + r = (m + r) + 1 by omega]
    show (if tx i = 59 then i + 1 else nxP tx (m + r) (i + 1)) = _
    rw [if_neg (h i (Nat.le_refl _) (by omega))]
    exact ih (i + 1) (by omega) r (fun j a b => h j (by omega) b)
/-- the text is a schedule from p on -/
def VdP (tx : Nat → Nat) (n p : Nat) : Prop := p ≤ n ∧ (p < n → feG tx (n - p) 0 p = none)
theorem nx_ok {tx : Nat → Nat} {n p q : Nat} (hp : p < n) (e : feG tx (n - p) 0 p = none) (o : StpOk tx n p q) : (if q < n then tx q = 59 ∧ nxP tx (n - p) p = q + 1 else nxP tx (n - p) p = n) ∧ VdP tx n (nxP tx (n - p) p) ∧ p < nxP tx (n - p) p := by
  obtain ⟨o1, o2, ⟨a, ⟨a9, a12, ea⟩, fe⟩, o3⟩ := o
  rw [e] at fe
  have en : nxP tx (n - p) p = nxP tx (n - q) q := by
    have := @nxP_eq tx q (q - p) p (by omega) (n - q) o3
    rw [show q - p + (n - q) = n - p by omega] at this
    exact this
  by_cases h : q < n
  · rw [if_pos h]
    have h59 : tx q = 59 := by
      apply Classical.byContradiction
      intro z
      rw [feG_s h, if_pos (ea h z)] at fe
      cases fe
    have e2 : nxP tx (n - q) q = q + 1 := by
      rw [show n - q = (n - (q + 1)) + 1 by omega]
      show (if tx q = 59 then q + 1 else _) = _
      exact if_pos h59
    rw [en, e2]
    refine ⟨⟨h59, rfl⟩, ⟨by omega, fun _ => ?_⟩, by omega⟩
    rw [fe]
    symm
    refine fe_go h ?_ (by decide)
    rw [h59]
    have : a = 9 ∨ a = 10 ∨ a = 11 := by omega
    rcases this with rfl | rfl | rfl <;> rfl
  · rw [if_neg h]
    have eq : q = n := by omega
    have e2 : nxP tx (n - q) q = n := by rw [eq, Nat.sub_self]; rfl
    rw [en, e2]
    exact ⟨rfl, ⟨Nat.le_refl _, fun z => absurd z (Nat.lt_irrefl _)⟩, hp⟩
/-- the value of a step -/
def vlV (tx : Nat → Nat) (n p : Nat) : Int32 := sgV (ngB tx n (p + 4)) (vD tx n 3 (fsN tx n (p + 4)) 0).1
/-- what a step makes of the state, nothing if its method would return an error -/
def exS (σ : sn_V) (c pol : Nat) (tx : Nat → Nat) (n p : Nat) : Option (Nat × sn_V) :=
  if tx p = 98 then (if bitP (σ 0 3) (tx (p + 1) - 48) then none else some (c, fStart σ (tx (p + 1) - 48)))
  else if tx p = 114 then (if bitP (σ 0 3) (tx (p + 1) - 48) then some (c, if bitP (σ 8 (tx (p + 1) - 48)) (tx (p + 2) - 97) then σ else fRead σ (tx (p + 1) - 48) (tx (p + 2) - 97)) else none)
  else if tx p = 119 then (if bitP (σ 0 3) (tx (p + 1) - 48) ∧ ¬ vlV tx n p < -(nI 999) ∧ ¬ nI 999 < vlV tx n p then some (c, fWrite σ (tx (p + 1) - 48) (tx (p + 2) - 97) (vlV tx n p)) else none)
  else if tx p = 99 then (if bitP (σ 0 3) (tx (p + 1) - 48) then some (cmC σ c (tx (p + 1) - 48) pol, cmS σ c (tx (p + 1) - 48) pol) else none)
  else if bitP (σ 0 3) (tx (p + 1) - 48) then some (c, fGive σ (tx (p + 1) - 48)) else none
theorem ex_inv {σ σ' : sn_V} {c c' pol n p : Nat} {tx : Nat → Nat} (T : StpT tx n p) (Z : StZ σ) (h0 : σ 0 0 = nI pol) (h1 : σ 0 1 = nI c) (h : exS σ c pol tx n p = some (c', σ')) : StZ σ' ∧ σ' 0 0 = nI pol ∧ σ' 0 1 = nI c' ∧ c' ≤ c + 1 := by
  obtain ⟨t1, ⟨s0, s1, s2⟩, tk, _⟩ := T
  have hw : tx (p + 1) - 48 < 8 := by omega
  unfold exS at h
  by_cases l1 : tx p = 98
  · rw [if_pos l1] at h
    split at h
    · cases h
    · cases h
      refine ⟨Z_start Z hw, ?_, ?_, by omega⟩
      · unfold fStart; rw [cpV_n (by omega), cpV_n (by omega), up_n (by omega), up_n (by omega), up_n (by omega), up_n (by omega)]; exact h0
      · unfold fStart; rw [cpV_n (by omega), cpV_n (by omega), up_n (by omega), up_n (by omega), up_n (by omega), up_n (by omega)]; exact h1
  · rw [if_neg l1] at h
    by_cases l2 : tx p = 114
    · rw [if_pos l2] at h
      split at h
      · cases h
        split
        · exact ⟨Z, h0, h1, by omega⟩
        · refine ⟨Z_read Z hw, ?_, ?_, by omega⟩
          · unfold fRead; rw [up_n (by omega)]; exact h0
          · unfold fRead; rw [up_n (by omega)]; exact h1
      · cases h
    · rw [if_neg l2] at h
      by_cases l3 : tx p = 119
      · rw [if_pos l3] at h
        split at h
        · cases h
          have hk := tk (Or.inr l3)
          refine ⟨Z_write Z hw (by omega), ?_, ?_, by omega⟩
          · unfold fWrite; rw [up_n (by omega), up_n (by omega)]; exact h0
          · unfold fWrite; rw [up_n (by omega), up_n (by omega)]; exact h1
        · cases h
      · rw [if_neg l3] at h
        by_cases l4 : tx p = 99
        · rw [if_pos l4] at h
          split at h
          · cases h
            exact ⟨Z_cm Z, cm_00.trans h0, cm_01 h1, cmC_le⟩
          · cases h
        · rw [if_neg l4] at h
          split at h
          · cases h
            refine ⟨Z_give Z, ?_, ?_, by omega⟩
            · unfold fGive fFree; rw [up_n (by omega), up_n (by omega)]; exact h0
            · unfold fGive fFree; rw [up_n (by omega), up_n (by omega)]; exact h1
          · cases h
/-- the class's value -/
theorem s_T_value {h : sn_H} {n p : Nat} {tx : Nat → Nat} {Q : Option Value → sn_H → Prop} (T : ScA h n tx) (hn : n ≤ 80) (ht : ∀ i, i < n → tx i < 127) (hp : p + 4 ≤ n) (H : Q (some (.int (vlV tx n p))) h) : wpE 84 0 [some (.ref 101), some (.int (nI p)), none, none, none, none] [] h (0, 0) Q := by
  obtain ⟨t1, t2, t3, t4, t5⟩ := T
  have g : ∀ i, i < n → hG h 102 (nI i).toNatClampNeg = nI (tx i) := fun i hi => by rw [cl (by omega)]; exact t5 i hi
  -- the loop
  have loop : ∀ (b : Bool) (f : Nat), f ≤ n → Q (some (.int (sgV b (vD tx n 3 f 0).1))) h → ∀ (r m x : Nat), m + r = 3 → vD tx n 3 f 0 = vD tx n r (f + m) x → f + m ≤ n → wpE 84 38 [some (.ref 101), none, some (.int (bi b)), some (.int (nI f)), some (.int (nI x)), some (.int (nI (f + m)))] [] h (0, 0) Q := by
    intro b f hf K r
    -- an end
    have fin : ∀ x, (vD tx n 3 f 0).1 = x → (bi b = 0 → Q (some (.int (nI x))) h) ∧ (¬ bi b = 0 → Q (some (.int (-(nI x)))) h) := fun x e => by
      rw [e] at K
      refine ⟨fun z => ?_, fun z => ?_⟩
      · rw [bi_0 z] at K; exact K
      · rw [bi_n0 z] at K; exact K
    induction r with
    | zero =>
      intro m x hm e hle
      have em : m = 3 := hm
      subst em
      have e' : vD tx n 3 f 0 = (x, f + 3) := e
      obtain ⟨F1, F2⟩ := fin x (by rw [e'])
      have ge : nI f + nI 3 ≤ nI (f + 3) := by rw [nI_add]; exact Int32.le_refl _
      exact r_T_valueOfStep_38 t1 t2 t3 (fun _ => F1) (fun _ => F2) (fun z => absurd ge z) (fun z => absurd ge z) (fun z => absurd ge z) (fun z => absurd ge z) (fun z => absurd ge z) (fun z => absurd ge z) (fun z => absurd ge z) (fun z => absurd ge z) (fun z => absurd ge z) (fun z => absurd ge z) (fun z => absurd ge z) (fun z => absurd ge z) (fun z => absurd ge z)
    | succ r ih =>
      intro m x hm e hle
      rw [@vD_s tx n r (f + m) x] at e
      have nge : ¬ nI f + nI 3 ≤ nI (f + m) := by rw [nI_add]; exact nI_ge (by omega) (by omega)
      have n0 : ¬ nI (f + m) < 0 := ar_n0 (by omega)
      have stop : ¬ (f + m < n ∧ 48 ≤ tx (f + m) ∧ tx (f + m) ≤ 57) → (bi b = 0 → Q (some (.int (nI x))) h) ∧ (¬ bi b = 0 → Q (some (.int (-(nI x)))) h) := fun q => by
        rw [if_neg q] at e
        exact fin x (by rw [e])
      have hn' : ¬ hG h 101 1 ≤ nI (f + m) → f + m < n := fun z => by
        rw [t4, nI_leI (by omega) (by omega)] at z
        omega
      have s1 : hG h 101 1 ≤ nI (f + m) → ¬ (f + m < n ∧ 48 ≤ tx (f + m) ∧ tx (f + m) ≤ 57) := fun z q => by
        rw [t4, nI_leI (by omega) (by omega)] at z
        omega
      have s2 : ∀ z : ¬ hG h 101 1 ≤ nI (f + m), hG h 102 (nI (f + m)).toNatClampNeg < nI 48 → ¬ (f + m < n ∧ 48 ≤ tx (f + m) ∧ tx (f + m) ≤ 57) := fun z y q => by
        rw [g _ (hn' z), nI_ltI (by have := ht _ (hn' z); omega) (by omega)] at y
        omega
      have s3 : ∀ z : ¬ hG h 101 1 ≤ nI (f + m), nI 57 < hG h 102 (nI (f + m)).toNatClampNeg → ¬ (f + m < n ∧ 48 ≤ tx (f + m) ∧ tx (f + m) ≤ 57) := fun z y q => by
        rw [g _ (hn' z), nI_ltI (by omega) (by have := ht _ (hn' z); omega)] at y
        omega
      have nc : ¬ hG h 101 1 ≤ nI (f + m) → narrow .char (.int (hG h 102 (nI (f + m)).toNatClampNeg)) = .int (hG h 102 (nI (f + m)).toNatClampNeg) := fun z => by rw [g _ (hn' z)]; exact nar_ch _ (ht _ (hn' z))
      have ib : ¬ hG h 101 1 ≤ nI (f + m) → vp_in (nI (f + m)) 80 := fun z => by have := hn' z; exact inb (by omega)
      refine r_T_valueOfStep_38 t1 t2 t3 (fun z => absurd z nge) (fun z => absurd z nge) (fun _ z => absurd z n0) (fun _ z => absurd z n0) (fun _ _ z => (stop (s1 z)).1) (fun _ _ z => (stop (s1 z)).2) (fun _ _ z => ib z) (fun _ _ z y => (stop (s2 z y)).1) (fun _ _ z y => (stop (s2 z y)).2) (fun _ _ z _ y => (stop (s3 z y)).1) (fun _ _ z _ y => (stop (s3 z y)).2) (fun _ _ z _ _ => ib z) (fun _ _ z y y2 => ?_) (fun _ _ z _ _ => nc z) (fun _ _ z => nc z)
      have hlt := hn' z
      have h127 := ht _ hlt
      rw [g _ hlt, nI_ltI (by omega) (by omega)] at y
      rw [g _ hlt, nI_ltI (by omega) (by omega)] at y2
      have dg : f + m < n ∧ 48 ≤ tx (f + m) ∧ tx (f + m) ≤ 57 := ⟨hlt, by omega, by omega⟩
      rw [if_pos dg] at e
      rw [g _ hlt, pk_sub (by omega), pk_mul, nI_add, nI_s, Nat.add_assoc]
      exact ih (m + 1) (10 * x + (tx (f + m) - 48)) (by omega) (by rw [← Nat.add_assoc]; exact e) (by omega)
  unfold vlV at H
  have a4 : nI p + nI 4 = nI (p + 4) := nI_add p 4
  have a5 : nI p + nI 5 = nI (p + 5) := nI_add p 5
  have hn' : ¬ hG h 101 1 ≤ nI p + nI 4 → p + 4 < n := fun z => by
    rw [t4, a4, nI_leI (by omega) (by omega)] at z
    omega
  have nneg : ngB tx n (p + 4) = false → wpE 84 38 [some (.ref 101), none, some (.int (nI 0)), some (.int (nI p + nI 4)), some (.int (nI 0)), some (.int (nI p + nI 4))] [] h (0, 0) Q := fun en => by
    have ef : fsN tx n (p + 4) = p + 4 := if_neg (by rw [en]; decide)
    rw [en, ef] at H
    rw [a4]
    exact loop false (p + 4) hp H 3 0 0 (Nat.zero_add _) rfl hp
  refine r_T_valueOfStep_0 t1 t2 t3 (fun z => ?_) (fun _ z => ?_) (fun _ z => ?_) (fun _ z y => ?_) (fun _ z y => ?_) (fun _ z => ?_)
  · rw [a4] at z; exact absurd z (ar_n0 (by omega))
  · rw [t4, a4, nI_leI (by omega) (by omega)] at z
    exact nneg (Bool.eq_false_iff.mpr (fun q => by have := (ngB_t.mp q).1; omega))
  · have := hn' z
    rw [a4]
    exact inb (by omega)
  · have hlt := hn' z
    have h127 := ht _ hlt
    rw [a4, g _ hlt, nI_eq (by omega) (by omega)] at y
    exact nneg (Bool.eq_false_iff.mpr (fun q => y (ngB_t.mp q).2))
  · have hlt := hn' z
    have h127 := ht _ hlt
    rw [a4, g _ hlt, nI_eq (by omega) (by omega)] at y
    have en : ngB tx n (p + 4) = true := ngB_t.mpr ⟨hlt, y⟩
    have ef : fsN tx n (p + 4) = p + 5 := if_pos en
    rw [en, ef] at H
    rw [a5]
    exact loop true (p + 5) (by omega) H 3 0 0 (Nat.zero_add _) rfl (by omega)
  · have hlt := hn' z
    rw [a4, g _ hlt]
    exact nar_ch _ (ht _ hlt)
theorem s_T_next {h : sn_H} {n p : Nat} {tx : Nat → Nat} {Q : Option Value → sn_H → Prop} (T : ScA h n tx) (hn : n ≤ 80) (ht : ∀ i, i < n → tx i < 127) (hp : p ≤ n) (H : Q (some (.int (nI (nxP tx (n - p) p)))) h) : wpE 85 0 [some (.ref 101), some (.int (nI p)), none] [] h (0, 0) Q := by
  obtain ⟨t1, t2, t3, t4, t5⟩ := T
  refine r_T_nextStep_0 ?_
  suffices ∀ (r i : Nat), i + r = n → nxP tx (n - p) p = nxP tx r i → wpE 85 2 [some (.ref 101), none, some (.int (nI i))] [] h (0, 0) Q from this (n - p) p (by omega) rfl
  intro r
  induction r with
  | zero =>
    intro i hi e
    have ei : i = n := hi
    have nn : ∀ {P : Prop}, ¬ (hG h 101 1) ≤ nI i → P := fun z => absurd (by rw [t4, ei]; exact Int32.le_refl _) z
    refine r_T_nextStep_2 t1 t2 t3 (fun _ => ?_) nn nn nn
    rw [e] at H
    rw [t4, ← ei]
    exact H
  | succ r ih =>
    intro i hi e
    have hlt : i < n := by omega
    have h127 := ht i hlt
    have g : hG h 102 (nI i).toNatClampNeg = nI (tx i) := by rw [cl (by omega)]; exact t5 i hlt
    have es : nxP tx (r + 1) i = if tx i = 59 then i + 1 else nxP tx r (i + 1) := rfl
    refine r_T_nextStep_2 t1 t2 t3 (fun z => ?_) (fun _ => inb (by omega)) (fun _ z => ?_) (fun _ z => ?_)
    · rw [t4] at z; exact absurd z (nI_ge hlt (by omega))
    · rw [g, nI_eq (by omega) (by omega)] at z
      rw [if_neg z] at es
      rw [nI_s]
      exact ih (i + 1) (by omega) (e.trans es)
    · rw [g, nI_eq (by omega) (by omega)] at z
      rw [if_pos z] at es
      rw [e, es] at H
      rw [nI_s]
      exact H
