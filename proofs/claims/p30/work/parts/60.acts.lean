/-! ===== the law's acts ===== -/
theorem ua_id {f : Nat → Int32} {i : Nat} {x : Int32} (h : f i = x) : ua f i x = f := by
  funext j
  unfold ua
  by_cases e : j = i
  · rw [if_pos e, e, h]
  · rw [if_neg e]
theorem on_s {x : Int32} {n : Nat} : onesI x (n + 1) = onesI x n + ((x >>> (nI n &&& 31)) &&& nI 1) := rfl
theorem bc_on4 : ∀ w, w < 16 → bcI (nI w) = onesI (nI w) 4 := by decide +kernel
theorem w_ok {r : Nat} (hr : r < 1999) : ¬ (nI r - nI 999) < -(nI 999) ∧ ¬ nI 999 < (nI r - nI 999) := by
  have e := pk_sub_toInt (a := r) (b := 999) (by omega) (by omega)
  have e1 : (-(nI 999) : Int32).toInt = -999 := by decide
  have e2 : (nI 999 : Int32).toInt = 999 := by decide
  rw [Int32.lt_iff_toInt_lt, Int32.lt_iff_toInt_lt, e, e1, e2]
  omega
theorem l_ok {r : Nat} (hr : r < 401) : ¬ (nI r - nI 200) < -(nI 9999) ∧ (nI r - nI 200) ≤ nI 9999 := by
  have e := pk_sub_toInt (a := r) (b := 200) (by omega) (by omega)
  have e1 : (-(nI 9999) : Int32).toInt = -9999 := by decide
  have e2 : (nI 9999 : Int32).toInt = 9999 := by decide
  rw [Int32.lt_iff_toInt_lt, Int32.le_iff_toInt_le, e, e1, e2]
  omega
def LI (L : Nat) (scr : Nat → Int32) (h : sn_H) : Prop := ∃ c σ q cc v t, PR c σ q cc v t ∧ WD L scr h σ q cc v t
section
variable {L : Nat} {scr : Nat → Int32} {σ : sn_V} {q cc v t : Nat → Int32} {c c1 c2 : Nat} {v6 v8 : Int32} {Q : Option Value → sn_H → Prop}
theorem a_end {h : sn_H} {c1' c2' : Nat} (l1 : c1 + 99 ≤ 600000) (l2 : c2 + 1922 ≤ 7302250) (K : ∀ h' c1' c2', LI L scr h' → c1' ≤ c1 + 99 → c2' ≤ c2 + 1922 → wpE 80 985 [some (.ref 0), some (.ref 1), some (.ref 103), some (.ref 104), some (.ref 105), some (.ref 106), some (.int v6), none, none, none, none, none, none, none, none, none, none, none] [] h' (c1', c2') Q) (D : WD L scr h σ q cc v t) (R : PR c σ q cc v t) (k1 : c1' ≤ c1 + 3) (k2 : c2' ≤ c2 + 54) : wpE 80 759 [some (.ref 0), some (.ref 1), some (.ref 103), some (.ref 104), some (.ref 105), some (.ref 106), some (.int v6), none, some (.int v8), none, none, none, none, none, none, none, none, none] [] h (c1', c2') Q :=
  t_behind D R (by omega) (by omega) (fun h' c1'' c2'' D' b1 b2 => K h' c1'' c2'' ⟨c, σ, q, cc, v, t, R, D'⟩ (by omega) (by omega))
theorem a_begin {h : sn_H} {i : Nat} (l1 : c1 + 99 ≤ 600000) (l2 : c2 + 1922 ≤ 7302250) (K : ∀ h' c1' c2', LI L scr h' → c1' ≤ c1 + 99 → c2' ≤ c2 + 1922 → wpE 80 985 [some (.ref 0), some (.ref 1), some (.ref 103), some (.ref 104), some (.ref 105), some (.ref 106), some (.int v6), none, none, none, none, none, none, none, none, none, none, none] [] h' (c1', c2') Q) (D : WD L scr h σ q cc v t) (R : PR c σ q cc v t) (hi : i < 4) :
    wpE 10 0 [some (.ref 1), some (.int (nI i)), none] [] h (0, 0) (fun r hh => wpE 80 177 [some (.ref 0), some (.ref 1), some (.ref 103), some (.ref 104), some (.ref 105), some (.ref 106), some (.int v6), none, some (.int v8), none, some (.int (nI i)), none, some (.int (bi (decide (bitP (σ 0 3) i)))), none, none, none, none, none] (r.toList ++ []) hh (c1, c2) Q) := by
  have c15 := R.c15
  by_cases o : bitP (σ 0 3) i
  · refine x_beginNo D hi o ?_
    rw [decide_eq_true o]
    refine r_L_law_177 D.kq (fun y => absurd y bi_t) (fun y => absurd y bi_t) (fun y => absurd y bi_t) (fun _ _ => ?_) (fun _ y => absurd rfl y)
    exact K h c1 c2 ⟨c, σ, q, cc, v, t, R, D⟩ (by omega) (by omega)
  · refine x_begin D R hi o (fun h1 D1 => ?_)
    rw [decide_eq_false o]
    have q0 : hG h1 103 (nI 0).toNatClampNeg = nI c := by rw [D1.gq (by omega)]; exact R.q0
    refine r_L_law_177 D1.kq (fun _ => inb (by omega)) (fun _ _ => ?_) (fun _ y => absurd q0.symm y) (fun y => absurd bi_f y) (fun y => absurd bi_f y)
    refine r_L_law_204 D1.kq D1.kt (inb (by omega)) (by rw [pk_mul]; exact inb (by omega)) (by rw [pk_mul, nI_add]; exact inb (by omega)) (by rw [pk_mul, nI_add]; exact inb (by omega)) (r_L_law_234 ?_)
    rw [q0, pk_mul, nI_add, nI_add, cl (by omega), cl (by omega), cl (by omega)]
    have W1 := (((D1.2.2.st (k := 3 * i) (x := nI c)).st (k := 3 * i + 1) (x := nI 0)).st (k := 3 * i + 2) (x := nI 0))
    have ch := ((((Nw.rf h1).ch 103).sG (p := 106) (k := 3 * i) (x := nI c) (by omega)).sG (p := 106) (k := 3 * i + 1) (x := nI 0) (by omega)).sG (p := 106) (k := 3 * i + 2) (x := nI 0) (by omega)
    exact a_end l1 l2 K (D1.ch4 ch W1) (pr_begin R hi) (by omega) (by omega)
theorem a_read {h : sn_H} {i k : Nat} (l1 : c1 + 99 ≤ 600000) (l2 : c2 + 1922 ≤ 7302250) (K : ∀ h' c1' c2', LI L scr h' → c1' ≤ c1 + 99 → c2' ≤ c2 + 1922 → wpE 80 985 [some (.ref 0), some (.ref 1), some (.ref 103), some (.ref 104), some (.ref 105), some (.ref 106), some (.int v6), none, none, none, none, none, none, none, none, none, none, none] [] h' (c1', c2') Q) (D : WD L scr h σ q cc v t) (R : PR c σ q cc v t) (hi : i < 4) (hk : k < 4) :
    wpE 80 244 [some (.ref 0), some (.ref 1), some (.ref 103), some (.ref 104), some (.ref 105), some (.ref 106), some (.int v6), none, some (.int v8), none, some (.int (nI i)), some (.int (nI k)), some (.int (bi (decide (bitP (σ 0 3) i)))), none, none, none, none, none] [] h (c1, c2) Q := by
  have c15 := R.c15
  by_cases o : bitP (σ 0 3) i
  · obtain ⟨s, r, w, ⟨b1, b2, b3⟩, ⟨d1, d2⟩, ⟨e1, e2⟩, ⟨f1, f2⟩, g⟩ := R.up hi o
    obtain ⟨g1, g2⟩ := g k hk
    rw [decide_eq_true o]
    have gt2 : hG h 106 (nI 3 * nI i + nI 2).toNatClampNeg = nI w := by rw [pk_mul, nI_add, D.gt (by omega), f1]
    have nb : ¬ bi true = 0 := bi_t
    refine r_L_law_244 D.k1 D.kt (fun y => absurd y nb) (fun y => absurd y nb) (fun y => absurd y nb) (fun _ => by rw [pk_mul, nI_add]; exact inb (by omega)) (fun _ _ => by omega) (fun _ _ => by omega) (fun _ y => ?_) (fun _ _ => by omega) (fun _ _ => by omega) (fun _ y => ?_)
    · rw [gt2] at y
      have y : ¬ bitP (nI w) k := y
      refine x_read D hi hk o (fun _ h1 D1 => ?_) (fun z => absurd (by rw [f2] at z; exact z) y)
      rw [g2, if_neg y]
      have gt0 : hG h1 106 (nI 3 * nI i).toNatClampNeg = nI s := by rw [pk_mul, D1.gt (by omega), d1]
      refine r_L_law_282 D1.kt (fun _ _ => by rw [pk_mul]; exact inb (by omega)) (fun _ _ => by omega) (fun _ _ => by omega) (fun _ _ => ?_) (fun _ z => absurd bi_f z) (fun _ z => absurd bi_f z) (fun _ z => absurd bi_f z) (fun z => absurd z nb) (fun z => absurd z nb)
      rw [gt0]
      refine s_L_value D1.2.2.2.2.1 D1.2.2.2.2.2.1 hk (by omega) ?_
      have gt1 : hG h1 106 (nI 3 * nI i + nI 1).toNatClampNeg = t (3 * i + 1) := by rw [pk_mul, nI_add, D1.gt (by omega)]
      refine r_L_law_329 D1.kt (fun _ z => absurd z nb) (fun _ _ z => absurd bi_f z) (fun _ _ _ => by rw [pk_mul, nI_add]; exact inb (by omega)) (fun _ _ _ => r_L_law_360 ?_) (fun z => absurd rfl z)
      rw [gt1, pk_mul, nI_add, cl (by omega)]
      have W1 := D1.2.2.st (k := 3 * i + 1) (x := t (3 * i + 1) ||| (nI 1 <<< (nI k &&& 31)))
      have ch := ((Nw.rf h1).ch 103).sG (p := 106) (k := 3 * i + 1) (x := t (3 * i + 1) ||| (nI 1 <<< (nI k &&& 31))) (by omega)
      exact a_end l1 l2 K (D1.ch4 ch W1) (pr_read R hi hk o) (by omega) (by omega)
    · rw [gt2] at y
      have y : bitP (nI w) k := y
      refine x_read D hi hk o (fun z => absurd (by rw [f2]; exact y) z) (fun _ h1 D1 => ?_)
      rw [g2, if_pos y]
      have gtk : hG h1 106 ((nI 12 + (nI 4 * nI i)) + nI k).toNatClampNeg = t (12 + 4 * i + k) := by rw [pk_mul, nI_add, nI_add, D1.gt (by omega)]
      refine r_L_law_282 D1.kt (fun _ z => absurd z bi_t) (fun _ z => absurd z bi_t) (fun _ z => absurd z bi_t) (fun _ z => absurd z bi_t) (fun _ _ => by rw [pk_mul, nI_add, nI_add]; exact inb (by omega)) (fun _ _ _ => r_L_law_360 ?_) (fun _ _ z => absurd gtk.symm z) (fun z => absurd z nb) (fun z => absurd z nb)
      exact a_end l1 l2 K D1 R (by omega) (by omega)
  · rw [decide_eq_false o]
    have nb : ¬ ¬ bi false = 0 := fun z => z bi_f
    refine r_L_law_244 D.k1 D.kt (fun _ => by omega) (fun _ => by omega) (fun _ => ?_) (fun y => absurd y nb) (fun y => absurd y nb) (fun y => absurd y nb) (fun y => absurd y nb) (fun y => absurd y nb) (fun y => absurd y nb) (fun y => absurd y nb)
    refine x_readNo D hi o ?_
    refine r_L_law_282 D.kt (fun y => absurd y nb) (fun y => absurd y nb) (fun y => absurd y nb) (fun y => absurd y nb) (fun y => absurd y nb) (fun y => absurd y nb) (fun y => absurd y nb) (fun _ _ => r_L_law_360 ?_) (fun _ z => absurd rfl z)
    exact a_end l1 l2 K D R (by omega) (by omega)
theorem a_write {h : sn_H} {i k : Nat} (l1 : c1 + 99 ≤ 600000) (l2 : c2 + 1922 ≤ 7302250) (K : ∀ h' c1' c2', LI L scr h' → c1' ≤ c1 + 99 → c2' ≤ c2 + 1922 → wpE 80 985 [some (.ref 0), some (.ref 1), some (.ref 103), some (.ref 104), some (.ref 105), some (.ref 106), some (.int v6), none, none, none, none, none, none, none, none, none, none, none] [] h' (c1', c2') Q) (D : WD L scr h σ q cc v t) (R : PR c σ q cc v t) (hi : i < 4) (hk : k < 4) :
    wpE 80 370 [some (.ref 0), some (.ref 1), some (.ref 103), some (.ref 104), some (.ref 105), some (.ref 106), some (.int v6), none, some (.int v8), none, some (.int (nI i)), some (.int (nI k)), some (.int (bi (decide (bitP (σ 0 3) i)))), none, none, none, none, none] [] h (c1, c2) Q := by
  have c15 := R.c15
  refine r_L_law_370 (by omega) (by omega) (s_L_low (by omega) (by omega) (fun r hr => ?_))
  obtain ⟨wk1, wk2⟩ := w_ok hr
  generalize nI r - nI 999 = x at wk1 wk2
  by_cases o : bitP (σ 0 3) i
  · obtain ⟨s, rr, w, ⟨b1, b2, b3⟩, _, _, ⟨f1, f2⟩, _⟩ := R.up hi o
    obtain ⟨w', w1, w2⟩ := m_put w b3 k hk
    rw [decide_eq_true o]
    have nb : ¬ bi true = 0 := bi_t
    have gt2 : hG h 106 (nI 3 * nI i + nI 2).toNatClampNeg = nI w := by rw [pk_mul, nI_add, D.gt (by omega), f1]
    sorry
  · sorry
end
