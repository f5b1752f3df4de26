/-! ===== the law's acts ===== -/
theorem ua_id {f : Nat → Int32} {i : Nat} {x : Int32} (h : f i = x) : ua f i x = f := by
  funext j
  unfold ua
  by_cases e : j = i
  · rw [if_pos e, e, h]
  · rw [if_neg e]
theorem on_s {x : Int32} {n : Nat} : onesI x (n + 1) = onesI x n + ((x >>> (nI n &&& 31)) &&& nI 1) := rfl
theorem bc_on4 : ∀ w, w < 16 → bcI (nI w) = onesI (nI w) 4 := by decide +kernel
theorem w_ok {r : Nat} (hr : r < 1999) : ¬ (nI r - nI 999) < -(nI 999) ∧ ¬ nI 999 < (nI r - nI 999) := by
  have e := pk_sub_toInt (a := r) (b := 999) (by omega) (by omega)
  have e1 : (-(nI 999) : Int32).toInt = -999 := by decide
  have e2 : (nI 999 : Int32).toInt = 999 := by decide
  rw [Int32.lt_iff_toInt_lt, Int32.lt_iff_toInt_lt, e, e1, e2]
  omega
theorem l_ok {r : Nat} (hr : r < 401) : ¬ (nI r - nI 200) < -(nI 9999) ∧ (nI r - nI 200) ≤ nI 9999 := by
  have e := pk_sub_toInt (a := r) (b := 200) (by omega) (by omega)
  have e1 : (-(nI 9999) : Int32).toInt = -9999 := by decide
  have e2 : (nI 9999 : Int32).toInt = 9999 := by decide
  rw [Int32.lt_iff_toInt_lt, Int32.le_iff_toInt_le, e, e1, e2]
  omega
def LI (L : Nat) (scr : Nat → Int32) (h : sn_H) : Prop := ∃ c σ q cc v t, PR c σ q cc v t ∧ WD L scr h σ q cc v t
section
variable {L : Nat} {scr : Nat → Int32} {σ : sn_V} {q cc v t : Nat → Int32} {c c1 c2 : Nat} {v6 v8 : Int32} {Q : Option Value → sn_H → Prop}
theorem a_end {h : sn_H} {c1' c2' : Nat} (l1 : c1 + 99 ≤ 600000) (l2 : c2 + 1922 ≤ 7302250) (K : ∀ h' c1' c2', LI L scr h' → c1' ≤ c1 + 99 → c2' ≤ c2 + 1922 → wpE 80 985 [some (.ref 0), some (.ref 1), some (.ref 103), some (.ref 104), some (.ref 105), some (.ref 106), some (.int v6), none, none, none, none, none, none, none, none, none, none, none] [] h' (c1', c2') Q) (D : WD L scr h σ q cc v t) (R : PR c σ q cc v t) (k1 : c1' ≤ c1 + 3) (k2 : c2' ≤ c2 + 54) : wpE 80 759 [some (.ref 0), some (.ref 1), some (.ref 103), some (.ref 104), some (.ref 105), some (.ref 106), some (.int v6), none, some (.int v8), none, none, none, none, none, none, none, none, none] [] h (c1', c2') Q :=
  t_behind D R (by omega) (by omega) (fun h' c1'' c2'' D' b1 b2 => K h' c1'' c2'' ⟨c, σ, q, cc, v, t, R, D'⟩ (by omega) (by omega))
theorem a_begin {h : sn_H} {i : Nat} (l1 : c1 + 99 ≤ 600000) (l2 : c2 + 1922 ≤ 7302250) (K : ∀ h' c1' c2', LI L scr h' → c1' ≤ c1 + 99 → c2' ≤ c2 + 1922 → wpE 80 985 [some (.ref 0), some (.ref 1), some (.ref 103), some (.ref 104), some (.ref 105), some (.ref 106), some (.int v6), none, none, none, none, none, none, none, none, none, none, none] [] h' (c1', c2') Q) (D : WD L scr h σ q cc v t) (R : PR c σ q cc v t) (hi : i < 4) :
    wpE 10 0 [some (.ref 1), some (.int (nI i)), none] [] h (0, 0) (fun r hh => wpE 80 177 [some (.ref 0), some (.ref 1), some (.ref 103), some (.ref 104), some (.ref 105), some (.ref 106), some (.int v6), none, some (.int v8), none, some (.int (nI i)), none, some (.int (bi (decide (bitP (σ 0 3) i)))), none, none, none, none, none] (r.toList ++ []) hh (c1, c2) Q) := by
  have c15 := R.c15
  by_cases o : bitP (σ 0 3) i
  · refine x_beginNo D hi o ?_
    rw [decide_eq_true o]
    refine r_L_law_177 D.kq (fun y => absurd y bi_t) (fun y => absurd y bi_t) (fun y => absurd y bi_t) (fun _ _ => ?_) (fun _ y => absurd rfl y)
    exact K h c1 c2 ⟨c, σ, q, cc, v, t, R, D⟩ (by omega) (by omega)
  · refine x_begin D R hi o (fun h1 D1 => ?_)
    rw [decide_eq_false o]
    have q0 : hG h1 103 (nI 0).toNatClampNeg = nI c := by rw [D1.gq (by omega)]; exact R.q0
    refine r_L_law_177 D1.kq (fun _ => inb (by omega)) (fun _ _ => ?_) (fun _ y => absurd q0.symm y) (fun y => absurd bi_f y) (fun y => absurd bi_f y)
    refine r_L_law_204 D1.kq D1.kt (inb (by omega)) (by rw [pk_mul]; exact inb (by omega)) (by rw [pk_mul, nI_add]; exact inb (by omega)) (by rw [pk_mul, nI_add]; exact inb (by omega)) (r_L_law_234 ?_)
    rw [q0, pk_mul, nI_add, nI_add, cl (by omega), cl (by omega), cl (by omega)]
    have W1 := (((D1.2.2.st (k := 3 * i) (x := nI c)).st (k := 3 * i + 1) (x := nI 0)).st (k := 3 * i + 2) (x := nI 0))
    have ch := ((((Nw.rf h1).ch 103).sG (p := 106) (k := 3 * i) (x := nI c) (by omega)).sG (p := 106) (k := 3 * i + 1) (x := nI 0) (by omega)).sG (p := 106) (k := 3 * i + 2) (x := nI 0) (by omega)
    exact a_end l1 l2 K (D1.ch4 ch W1) (pr_begin R hi) (by omega) (by omega)
theorem a_read {h : sn_H} {i k : Nat} (l1 : c1 + 99 ≤ 600000) (l2 : c2 + 1922 ≤ 7302250) (K : ∀ h' c1' c2', LI L scr h' → c1' ≤ c1 + 99 → c2' ≤ c2 + 1922 → wpE 80 985 [some (.ref 0), some (.ref 1), some (.ref 103), some (.ref 104), some (.ref 105), some (.ref 106), some (.int v6), none, none, none, none, none, none, none, none, none, none, none] [] h' (c1', c2') Q) (D : WD L scr h σ q cc v t) (R : PR c σ q cc v t) (hi : i < 4) (hk : k < 4) :
    wpE 80 244 [some (.ref 0), some (.ref 1), some (.ref 103), some (.ref 104), some (.ref 105), some (.ref 106), some (.int v6), none, some (.int v8), none, some (.int (nI i)), some (.int (nI k)), some (.int (bi (decide (bitP (σ 0 3) i)))), none, none, none, none, none] [] h (c1, c2) Q := by
  have c15 := R.c15
  by_cases o : bitP (σ 0 3) i
  · obtain ⟨s, r, w, ⟨b1, b2, b3⟩, ⟨d1, d2⟩, ⟨e1, e2⟩, ⟨f1, f2⟩, g⟩ := R.up hi o
    obtain ⟨g1, g2⟩ := g k hk
    rw [decide_eq_true o]
    have gt2 : hG h 106 (nI 3 * nI i + nI 2).toNatClampNeg = nI w := by rw [pk_mul, nI_add, D.gt (by omega), f1]
    have nb : ¬ bi true = 0 := bi_t
    refine r_L_law_244 D.k1 D.kt (fun y => absurd y nb) (fun y => absurd y nb) (fun y => absurd y nb) (fun _ => by rw [pk_mul, nI_add]; exact inb (by omega)) (fun _ _ => by omega) (fun _ _ => by omega) (fun _ y => ?_) (fun _ _ => by omega) (fun _ _ => by omega) (fun _ y => ?_)
    · rw [gt2] at y
      have y : ¬ bitP (nI w) k := y
      refine x_read D hi hk o (fun _ h1 D1 => ?_) (fun z => absurd (by rw [f2] at z; exact z) y)
      rw [g2, if_neg y]
      have gt0 : hG h1 106 (nI 3 * nI i).toNatClampNeg = nI s := by rw [pk_mul, D1.gt (by omega), d1]
      refine r_L_law_282 D1.kt (fun _ _ => by rw [pk_mul]; exact inb (by omega)) (fun _ _ => by omega) (fun _ _ => by omega) (fun _ _ => ?_) (fun _ z => absurd bi_f z) (fun _ z => absurd bi_f z) (fun _ z => absurd bi_f z) (fun z => absurd z nb) (fun z => absurd z nb)
      rw [gt0]
      refine s_L_value D1.2.2.2.2.1 D1.2.2.2.2.2.1 hk (by omega) ?_
      have gt1 : hG h1 106 (nI 3 * nI i + nI 1).toNatClampNeg = t (3 * i + 1) := by rw [pk_mul, nI_add, D1.gt (by omega)]
      refine r_L_law_329 D1.kt (fun _ z => absurd z nb) (fun _ _ z => absurd bi_f z) (fun _ _ _ => by rw [pk_mul, nI_add]; exact inb (by omega)) (fun _ _ _ => r_L_law_360 ?_) (fun z => absurd rfl z)
      rw [gt1, pk_mul, nI_add, cl (by omega)]
      have W1 := D1.2.2.st (k := 3 * i + 1) (x := t (3 * i + 1) ||| (nI 1 <<< (nI k &&& 31)))
      have ch := ((Nw.rf h1).ch 103).sG (p := 106) (k := 3 * i + 1) (x := t (3 * i + 1) ||| (nI 1 <<< (nI k &&& 31))) (by omega)
      exact a_end l1 l2 K (D1.ch4 ch W1) (pr_read R hi hk o) (by omega) (by omega)
    · rw [gt2] at y
      have y : bitP (nI w) k := y
      refine x_read D hi hk o (fun z => absurd (by rw [f2]; exact y) z) (fun _ h1 D1 => ?_)
      rw [g2, if_pos y]
      have gtk : hG h1 106 ((nI 12 + (nI 4 * nI i)) + nI k).toNatClampNeg = t (12 + 4 * i + k) := by rw [pk_mul, nI_add, nI_add, D1.gt (by omega)]
      refine r_L_law_282 D1.kt (fun _ z => absurd z bi_t) (fun _ z => absurd z bi_t) (fun _ z => absurd z bi_t) (fun _ z => absurd z bi_t) (fun _ _ => by rw [pk_mul, nI_add, nI_add]; exact inb (by omega)) (fun _ _ _ => r_L_law_360 ?_) (fun _ _ z => absurd gtk.symm z) (fun z => absurd z nb) (fun z => absurd z nb)
      exact a_end l1 l2 K D1 R (by omega) (by omega)
  · rw [decide_eq_false o]
    have nb : ¬ ¬ bi false = 0 := fun z => z bi_f
    refine r_L_law_244 D.k1 D.kt (fun _ => by omega) (fun _ => by omega) (fun _ => ?_) (fun y => absurd y nb) (fun y => absurd y nb) (fun y => absurd y nb) (fun y => absurd y nb) (fun y => absurd y nb) (fun y => absurd y nb) (fun y => absurd y nb)
    refine x_readNo D hi o ?_
    refine r_L_law_282 D.kt (fun y => absurd y nb) (fun y => absurd y nb) (fun y => absurd y nb) (fun y => absurd y nb) (fun y => absurd y nb) (fun y => absurd y nb) (fun y => absurd y nb) (fun _ _ => r_L_law_360 ?_) (fun _ z => absurd rfl z)
    exact a_end l1 l2 K D R (by omega) (by omega)
theorem a_write {h : sn_H} {i k : Nat} (l1 : c1 + 99 ≤ 600000) (l2 : c2 + 1922 ≤ 7302250) (K : ∀ h' c1' c2', LI L scr h' → c1' ≤ c1 + 99 → c2' ≤ c2 + 1922 → wpE 80 985 [some (.ref 0), some (.ref 1), some (.ref 103), some (.ref 104), some (.ref 105), some (.ref 106), some (.int v6), none, none, none, none, none, none, none, none, none, none, none] [] h' (c1', c2') Q) (D : WD L scr h σ q cc v t) (R : PR c σ q cc v t) (hi : i < 4) (hk : k < 4) :
    wpE 80 370 [some (.ref 0), some (.ref 1), some (.ref 103), some (.ref 104), some (.ref 105), some (.ref 106), some (.int v6), none, some (.int v8), none, some (.int (nI i)), some (.int (nI k)), some (.int (bi (decide (bitP (σ 0 3) i)))), none, none, none, none, none] [] h (c1, c2) Q := by
  have c15 := R.c15
  refine r_L_law_370 (by omega) (by omega) (s_L_low (by omega) (by omega) (fun r hr => ?_))
  obtain ⟨wk1, wk2⟩ := w_ok hr
  obtain ⟨x, hx⟩ : ∃ x, x = nI r - nI 999 := ⟨_, rfl⟩
  rw [← hx] at wk1 wk2
  by_cases o : bitP (σ 0 3) i
  · obtain ⟨s, rr, w, ⟨b1, b2, b3⟩, _, _, ⟨f1, f2⟩, _⟩ := R.up hi o
    obtain ⟨w', w1, w2⟩ := m_put w b3 k hk
    rw [decide_eq_true o]
    have nb : ¬ bi true = 0 := bi_t
    have gt2 : hG h 106 (nI 3 * nI i + nI 2).toNatClampNeg = t (3 * i + 2) := by rw [pk_mul, nI_add, D.gt (by omega)]
    refine r_L_law_381 D.k1 D.kt (fun y => absurd y nb) (fun y => absurd y nb) (fun y => absurd y nb) (fun _ => by rw [pk_mul, nI_add]; exact inb (by omega)) (fun _ => by rw [pk_mul, nI_add, nI_add]; exact inb (by omega)) (fun _ => ?_)
    rw [← hx, gt2, pk_mul, pk_mul, nI_add, nI_add, nI_add, cl (by omega), cl (by omega)]
    have W1 := (D.2.2.st (k := 3 * i + 2) (x := t (3 * i + 2) ||| (nI 1 <<< (nI k &&& 31)))).st (k := 12 + 4 * i + k) (x := x)
    have ch := (((Nw.rf h).ch 103).sG (p := 106) (k := 3 * i + 2) (x := t (3 * i + 2) ||| (nI 1 <<< (nI k &&& 31))) (by omega)).sG (p := 106) (k := 12 + 4 * i + k) (x := x) (by omega)
    have D1 := D.ch4 ch W1
    have gw : ua (ua t (3 * i + 2) (t (3 * i + 2) ||| (nI 1 <<< (nI k &&& 31)))) (12 + 4 * i + k) x (3 * i + 2) = nI w' := by rw [ua_n (by omega), ua_s, f1, w2]
    have P1 := pr_write (x := x) R hi hk o
    refine r_L_law_426 ?_
    generalize setG (setG h 106 (3 * i + 2) (t (3 * i + 2) ||| (nI 1 <<< (nI k &&& 31)))) 106 (12 + 4 * i + k) x = h1 at D1 ⊢
    generalize ua (ua t (3 * i + 2) (t (3 * i + 2) ||| (nI 1 <<< (nI k &&& 31)))) (12 + 4 * i + k) x = t1 at D1 gw P1
    suffices ∀ m j, j + m = 4 → wpE 80 429 [some (.ref 0), some (.ref 1), some (.ref 103), some (.ref 104), some (.ref 105), some (.ref 106), some (.int v6), none, some (.int v8), none, some (.int (nI i)), some (.int (nI k)), some (.int (bi true)), some (.int x), some (.int (onesI (nI w') j)), some (.int (nI j)), none, none] [] h1 (c1, c2) Q from this 4 0 rfl
    intro m
    induction m with
    | zero =>
      intro j hj
      have e : j = 4 := hj
      subst e
      refine r_L_law_429 D1.k1 D1.kt (fun _ => by omega) (fun _ => by omega) (fun _ => ?_) (fun y => absurd (Int32.le_refl _) y) (fun y => absurd (Int32.le_refl _) y)
      refine x_write D1 hi hk o wk1 wk2 (fun h2 D2 => ?_)
      have e8 : fWrite σ i k x 8 i = nI w' := by unfold fWrite; rw [up_n (by omega), up_s, f2, w2]
      have eq : bcI (fWrite σ i k x 8 i) = onesI (nI w') 4 := by rw [e8]; exact bc_on4 w' w1
      exact r_L_law_470 (fun y => absurd y nb) (fun y => absurd y nb) (fun _ _ => a_end l1 l2 K D2 P1 (by omega) (by omega)) (fun _ y => absurd eq y)
    | succ m ih =>
      intro j hj
      have nl : ¬ nI 4 ≤ nI j := nI_ge (by omega) (by omega)
      have gt1 : hG h1 106 (nI 3 * nI i + nI 2).toNatClampNeg = nI w' := by rw [pk_mul, nI_add, D1.gt (by omega), gw]
      refine r_L_law_429 D1.k1 D1.kt (fun y => absurd y nl) (fun y => absurd y nl) (fun y => absurd y nl) (fun _ => by rw [pk_mul, nI_add]; exact inb (by omega)) (fun _ => ?_)
      have h9 := ih (j + 1) (by omega)
      rw [on_s] at h9
      rw [gt1, nI_s]
      exact h9
  · rw [decide_eq_false o]
    have nb : ¬ ¬ bi false = 0 := fun z => z bi_f
    refine r_L_law_381 D.k1 D.kt (fun _ => by omega) (fun _ => by omega) (fun _ => ?_) (fun y => absurd y nb) (fun y => absurd y nb) (fun y => absurd y nb)
    refine x_writeNo D hi o ?_
    exact r_L_law_470 (fun _ _ => a_end l1 l2 K D R (by omega) (by omega)) (fun _ y => absurd rfl y) (fun y => absurd y nb) (fun y => absurd y nb)
theorem a_commit {h : sn_H} {i : Nat} (l1 : c1 + 99 ≤ 600000) (l2 : c2 + 1922 ≤ 7302250) (K : ∀ h' c1' c2', LI L scr h' → c1' ≤ c1 + 99 → c2' ≤ c2 + 1922 → wpE 80 985 [some (.ref 0), some (.ref 1), some (.ref 103), some (.ref 104), some (.ref 105), some (.ref 106), some (.int v6), none, none, none, none, none, none, none, none, none, none, none] [] h' (c1', c2') Q) (D : WD L scr h σ q cc v t) (R : PR c σ q cc v t) (hi : i < 4) (hc : ¬ c = 15) :
    wpE 80 509 [some (.ref 0), some (.ref 1), some (.ref 103), some (.ref 104), some (.ref 105), some (.ref 106), some (.int v6), none, some (.int v8), none, some (.int (nI i)), none, some (.int (bi (decide (bitP (σ 0 3) i)))), none, none, none, none, none] [] h (c1, c2) Q := by
  have c15 := R.c15
  obtain ⟨p, p1, p2, p3⟩ := R.pol
  by_cases o : bitP (σ 0 3) i
  · rw [decide_eq_true o]
    have nb : ¬ bi true = 0 := bi_t
    refine r_L_law_509 D.k1 (fun y => absurd y nb) (fun y => absurd y nb) (fun y => absurd y nb) (fun _ => by omega) (fun _ => by omega) (fun _ => ?_)
    refine s_L_commit R D.2.2 (by omega) hi o p2 p1 (fun h1 q' cc' v' t' ch W' R' => ?_)
    have D1 := D.ch4 ch W'
    refine r_L_law_525 D1.k1 (by omega) (by omega) (x_commit D1 ⟨by omega, R.x⟩ hi o p2 p1 (fun h2 D2 => ?_))
    exact r_L_law_539 (fun _ => a_end l1 l2 K D2 R' (by omega) (by omega)) (fun y => absurd rfl y)
  · rw [decide_eq_false o]
    have nb : ¬ ¬ bi false = 0 := fun z => z bi_f
    refine r_L_law_509 D.k1 (fun _ => by omega) (fun _ => by omega) (fun _ => ?_) (fun y => absurd y nb) (fun y => absurd y nb) (fun y => absurd y nb)
    refine x_commitNo D hi o ?_
    exact r_L_law_539 (fun _ => a_end l1 l2 K D R (by omega) (by omega)) (fun y => absurd rfl y)
theorem a_policy {h : sn_H} {v7 : Int32} (l1 : c1 + 99 ≤ 600000) (l2 : c2 + 1922 ≤ 7302250) (K : ∀ h' c1' c2', LI L scr h' → c1' ≤ c1 + 99 → c2' ≤ c2 + 1922 → wpE 80 985 [some (.ref 0), some (.ref 1), some (.ref 103), some (.ref 104), some (.ref 105), some (.ref 106), some (.int v6), none, none, none, none, none, none, none, none, none, none, none] [] h' (c1', c2') Q) (D : WD L scr h σ q cc v t) (R : PR c σ q cc v t) :
    wpE 80 556 [some (.ref 0), some (.ref 1), some (.ref 103), some (.ref 104), some (.ref 105), some (.ref 106), some (.int v6), some (.int v7), some (.int v8), none, none, none, none, none, none, none, none, none] [] h (c1, c2) Q := by
  have c15 := R.c15
  obtain ⟨p0, p1, p2, p3⟩ := R.pol
  refine r_L_law_556 (by omega) (by omega) (s_L_low (by omega) (by omega) (fun p hp => ?_))
  refine r_L_law_564 (by omega) (by omega) (s_L_low (by omega) (by omega) (fun j hj => ?_))
  refine r_L_law_575 (by omega) (by omega) (s_L_low (by omega) (by omega) (fun m hm => ?_))
  refine r_L_law_584 (by omega) (by omega) (s_L_low (by omega) (by omega) (fun r hr => ?_))
  obtain ⟨y1, y2⟩ := l_ok hr
  obtain ⟨y, hy⟩ : ∃ y, y = nI r - nI 200 := ⟨_, rfl⟩
  rw [← hy] at y1 y2
  refine r_L_law_597 D.k1 (by omega) (by omega) ?_
  rw [← hy]
  refine x_setPolicy D hp (fun h1 D1 => ?_)
  have e1 : σ 0 0 = hG h1 103 (nI 1).toNatClampNeg := by rw [D1.gq (by omega), p3, p2]
  refine r_L_law_609 D1.kq D1.k1 (inb (by omega)) (fun z => absurd e1 z) (fun _ => by omega) (fun _ => by omega) (fun _ => ?_)
  refine x_setConstraint D1 hj hm y1 y2 (fun h2 D2 => ?_)
  have e2 : up σ 0 0 (nI p) 3 j = hG h2 103 (nI 7 + nI 2 * nI j).toNatClampNeg := by
    rw [pk_mul, nI_add, D2.gq (by omega), up_n (by omega)]
    exact (R.con hj).2.symm
  refine r_L_law_625 D2.kq (by rw [pk_mul, nI_add]; exact inb (by omega)) (fun _ => inb (by omega)) (fun _ => by rw [pk_mul, nI_add]; exact inb (by omega)) (fun _ => r_L_law_666 ?_) (fun z => absurd e2 z)
  rw [pk_mul, nI_add, nI_add, cl (by omega : 1 < 2 ^ 31), cl (by omega : 6 + 2 * j < 2 ^ 31), cl (by omega : 7 + 2 * j < 2 ^ 31)]
  have W1 := ((D2.2.2.sq (k := 1) (x := nI p)).sq (k := 6 + 2 * j) (x := nI m)).sq (k := 7 + 2 * j) (x := y)
  have ch := ((((Nw.rf h2).ch 103).sG (p := 103) (k := 1) (x := nI p) (by omega)).sG (p := 103) (k := 6 + 2 * j) (x := nI m) (by omega)).sG (p := 103) (k := 7 + 2 * j) (x := y) (by omega)
  exact a_end l1 l2 K (D2.ch4 ch W1) (pr_con (pr_pol R hp) hj hm) (by omega) (by omega)
theorem a_abort {h : sn_H} {i : Nat} (l1 : c1 + 99 ≤ 600000) (l2 : c2 + 1922 ≤ 7302250) (K : ∀ h' c1' c2', LI L scr h' → c1' ≤ c1 + 99 → c2' ≤ c2 + 1922 → wpE 80 985 [some (.ref 0), some (.ref 1), some (.ref 103), some (.ref 104), some (.ref 105), some (.ref 106), some (.int v6), none, none, none, none, none, none, none, none, none, none, none] [] h' (c1', c2') Q) (D : WD L scr h σ q cc v t) (R : PR c σ q cc v t) (hi : i < 4) :
    wpE 80 669 [some (.ref 0), some (.ref 1), some (.ref 103), some (.ref 104), some (.ref 105), some (.ref 106), some (.int v6), none, some (.int v8), none, some (.int (nI i)), none, some (.int (bi (decide (bitP (σ 0 3) i)))), none, none, none, none, none] [] h (c1, c2) Q := by
  have c15 := R.c15
  have i3 : (nI 3 * nI i).toNatClampNeg = 3 * i := by rw [pk_mul]; exact cl (by omega)
  have c5 : (nI 5).toNatClampNeg = 5 := cl (by omega)
  refine r_L_law_669 ?_
  by_cases o : bitP (σ 0 3) i
  · obtain ⟨s, rr, w, ⟨b1, b2, b3⟩, _, _, ⟨f1, f2⟩, _⟩ := R.up hi o
    rw [decide_eq_true o]
    have nb : ¬ bi true = 0 := bi_t
    have gt2 : hG h 106 (nI 3 * nI i + nI 2).toNatClampNeg = nI w := by rw [pk_mul, nI_add, D.gt (by omega), f1]
    suffices ∀ m j, j + m = 4 → wpE 80 675 [some (.ref 0), some (.ref 1), some (.ref 103), some (.ref 104), some (.ref 105), some (.ref 106), some (.int v6), none, some (.int v8), none, some (.int (nI i)), none, some (.int (bi true)), some (.int (onesI (nI w) j)), some (.int (nI j)), none, none, none] [] h (c1, c2) Q from this 4 0 rfl
    intro m
    induction m with
    | zero =>
      intro j hj
      have e : j = 4 := hj
      subst e
      refine r_L_law_675 D.k1 D.kt (fun _ => by omega) (fun _ => by omega) (fun _ => ?_) (fun y => absurd (Int32.le_refl _) y) (fun y => absurd (Int32.le_refl _) y) (fun y => absurd (Int32.le_refl _) y) (fun y => absurd (Int32.le_refl _) y) (fun y => absurd (Int32.le_refl _) y)
      refine x_abort D hi o (fun h2 D2 => ?_)
      have eq : bcI (σ 8 i) = onesI (nI w) 4 := by rw [f2]; exact bc_on4 w b3
      refine r_L_law_717 D2.kt D2.kq (fun y => absurd y nb) (fun y => absurd y nb) (fun y => absurd y nb) (fun y => absurd y nb) (fun _ _ => by rw [pk_mul]; exact inb (by omega)) (fun _ _ => inb (by omega)) (fun _ _ => ?_) (fun _ y => absurd eq y)
      rw [i3, c5]
      have W1 := D2.2.2.st (k := 3 * i) (x := -(nI 1))
      have ch := ((Nw.rf h2).ch 103).sG (p := 106) (k := 3 * i) (x := -(nI 1)) (by omega)
      have D3 := D2.ch4 ch W1
      have gq5 : hG (setG h2 106 (3 * i) (-(nI 1))) 103 5 = q 5 := D3.2.2.2.1.2 5
      rw [gq5]
      exact a_end l1 l2 K (D3.ch4 (((Nw.rf _).ch 103).sG (p := 103) (by omega)) (D3.2.2.sq (k := 5) (x := q 5 + nI 1))) (pr_abort R hi) (by omega) (by omega)
    | succ m ih =>
      intro j hj
      have nl : ¬ nI 4 ≤ nI j := nI_ge (by omega) (by omega)
      refine r_L_law_675 D.k1 D.kt (fun y => absurd y nl) (fun y => absurd y nl) (fun y => absurd y nl) (fun _ y => absurd y nb) (fun _ y => absurd y nb) (fun _ y => absurd y nb) (fun _ _ => by rw [pk_mul, nI_add]; exact inb (by omega)) (fun _ _ => ?_)
      have h9 := ih (j + 1) (by omega)
      rw [on_s] at h9
      rw [gt2, nI_s]
      exact h9
  · rw [decide_eq_false o]
    have nb : ¬ ¬ bi false = 0 := fun z => z bi_f
    have nl : ¬ nI 4 ≤ nI 0 := nI_ge (by omega) (by omega)
    refine r_L_law_675 D.k1 D.kt (fun y => absurd y nl) (fun y => absurd y nl) (fun y => absurd y nl) (fun _ _ => by omega) (fun _ _ => by omega) (fun _ _ => ?_) (fun _ y => absurd y nb) (fun _ y => absurd y nb)
    refine x_abortNo D hi o ?_
    have tm : t (3 * i) = -(nI 1) := by
      rcases R.slot hi with ⟨_, z⟩ | ⟨z, _⟩
      · exact z
      · exact absurd z o
    refine r_L_law_717 D.kt D.kq (fun _ _ => by rw [pk_mul]; exact inb (by omega)) (fun _ _ => inb (by omega)) (fun _ _ => ?_) (fun _ y => absurd rfl y) (fun y => absurd y nb) (fun y => absurd y nb) (fun y => absurd y nb) (fun y => absurd y nb)
    rw [i3, c5]
    have W1 := D.2.2.st (k := 3 * i) (x := -(nI 1))
    rw [ua_id tm] at W1
    have ch := ((Nw.rf h).ch 103).sG (p := 106) (k := 3 * i) (x := -(nI 1)) (by omega)
    have D3 := D.ch4 ch W1
    have gq5 : hG (setG h 106 (3 * i) (-(nI 1))) 103 5 = q 5 := D3.2.2.2.1.2 5
    rw [gq5, add_n0]
    have W2 := D3.2.2.sq (k := 5) (x := q 5)
    rw [ua_id (f := q) (i := 5) rfl] at W2
    exact a_end l1 l2 K (D3.ch4 (((Nw.rf _).ch 103).sG (p := 103) (by omega)) W2) R (by omega) (by omega)
/-- an act, of any kind -/
theorem a_act {h : sn_H} {kd i k : Nat} {v7 : Int32} (l1 : c1 + 99 ≤ 600000) (l2 : c2 + 1922 ≤ 7302250) (K : ∀ h' c1' c2', LI L scr h' → c1' ≤ c1 + 99 → c2' ≤ c2 + 1922 → wpE 80 985 [some (.ref 0), some (.ref 1), some (.ref 103), some (.ref 104), some (.ref 105), some (.ref 106), some (.int v6), none, none, none, none, none, none, none, none, none, none, none] [] h' (c1', c2') Q) (D : WD L scr h σ q cc v t) (R : PR c σ q cc v t) (hd : kd < 17) (hi : i < 4) (hk : k < 4) :
    wpE 80 146 [some (.ref 0), some (.ref 1), some (.ref 103), some (.ref 104), some (.ref 105), some (.ref 106), some (.int v6), some (.int v7), some (.int v8), some (.int (nI kd)), some (.int (nI i)), none, none, none, none, none, none, none] [.int (nI k)] h (c1, c2) Q := by
  have c15 := R.c15
  have gt0 : hG h 106 (nI 3 * nI i).toNatClampNeg = t (3 * i) := by rw [pk_mul, D.gt (by omega)]
  have is := R.is hi
  have g165 : ∀ x, x = bi (decide (bitP (σ 0 3) i)) → wpE 80 165 [some (.ref 0), some (.ref 1), some (.ref 103), some (.ref 104), some (.ref 105), some (.ref 106), some (.int v6), some (.int v7), some (.int v8), some (.int (nI kd)), some (.int (nI i)), some (.int (nI k)), some (.int x), none, none, none, none, none] [] h (c1, c2) Q := by
    rintro x rfl
    refine r_L_law_165 D.k1 (fun y1 => ?_) (fun _ => by omega) (fun _ => by omega) (fun _ => a_begin l1 l2 K D R hi)
    refine r_L_law_237 (fun y2 => ?_) (fun _ => a_read l1 l2 K D R hi hk)
    refine r_L_law_363 (fun y3 => ?_) (fun _ => a_write l1 l2 K D R hi hk)
    have q0 : hG h 103 (nI 0).toNatClampNeg = nI c := by rw [D.gq (by omega)]; exact R.q0
    refine r_L_law_491 D.kq (fun y4 => ?_) (fun _ => inb (by omega)) (fun _ z => ?_) (fun _ _ => K h c1 c2 ⟨c, σ, q, cc, v, t, R, D⟩ (by omega) (by omega))
    · exact r_L_law_549 (fun _ => a_abort l1 l2 K D R hi) (fun _ => a_policy l1 l2 K D R)
    · rw [q0, nI_eq (by omega) (by omega)] at z
      exact a_commit l1 l2 K D R hi z
  refine r_L_law_146 D.kt (by rw [pk_mul]; exact inb (by omega)) (fun y => r_L_law_163 ?_) (fun y => r_L_law_163 ?_)
  · rw [gt0] at y
    refine g165 _ (bi_n (fun z => ?_))
    exact absurd y (Int32.not_lt.mpr (is.mpr z))
  · rw [gt0] at y
    exact g165 _ (bi_d (is.mp (Int32.not_lt.mp y)))
end
/-- a turn -/
theorem a_turn {L : Nat} {scr : Nat → Int32} (hL : L ≤ 260) {c1 c2 j : Nat} {h : sn_H} {Q : Option Value → sn_H → Prop} (l1 : c1 + 99 ≤ 600000) (l2 : c2 + 1922 ≤ 7302250) (hj : j < 44) (I : LI L scr h)
    (K : ∀ h' c1' c2', LI L scr h' → c1' ≤ c1 + 99 → c2' ≤ c2 + 1922 → wpE 80 985 [some (.ref 0), some (.ref 1), some (.ref 103), some (.ref 104), some (.ref 105), some (.ref 106), some (.int (nI j)), none, none, none, none, none, none, none, none, none, none, none] [] h' (c1', c2') Q) : wpE 80 56 [some (.ref 0), some (.ref 1), some (.ref 103), some (.ref 104), some (.ref 105), some (.ref 106), some (.int (nI j)), none, none, none, none, none, none, none, none, none, none, none] [] h (c1, c2) Q := by
  obtain ⟨c, σ, q, cc, v, t, R, D⟩ := I
  have nl : ¬ nI 44 ≤ nI j := nI_ge (by omega) (by omega)
  have La := D.1
  refine r_L_law_56 (fun y => absurd y nl) (fun _ => by omega) (fun _ => by omega) (fun _ => ?_)
  rw [pk_mul]
  refine s_L_cell La hL (by omega) (fun x => ?_)
  refine r_L_law_71 (by omega) (by omega) ?_
  rw [pk_mul, nI_add]
  refine s_L_cell La hL (by omega) (fun y => ?_)
  have g135 : ∀ (kd i : Nat) (s0 s1 : Int32), kd < 17 → i < 4 → wpE 80 135 [some (.ref 0), some (.ref 1), some (.ref 103), some (.ref 104), some (.ref 105), some (.ref 106), some (.int (nI j)), some (.int x), some (.int y), some (.int (nI kd)), some (.int (nI i)), none, none, none, none, none, none, none] [.int s1, .int s0] h (c1, c2) Q := fun kd i s0 s1 hd hi =>
    r_L_law_135 (fun _ => by omega) (fun _ => by omega) (fun _ => s_L_low (by omega) (by omega) (fun k hk => a_act l1 l2 K D R hd hi (by omega))) (fun _ => by omega) (fun _ => by omega) (fun _ => s_L_low (by omega) (by omega) (fun k hk => a_act l1 l2 K D R hd hi hk))
  refine r_L_law_83 (fun _ => by omega) (fun _ => by omega) (fun z => ?_) (fun _ => by omega) (fun _ => by omega) (fun z => ?_)
  · refine s_L_low (by omega) (by omega) (fun kd hd => ?_)
    refine r_L_law_102 (fun _ => by omega) (fun _ => by omega) (fun _ => ?_) (fun _ => by omega) (fun _ => by omega) (fun w => absurd z w)
    refine s_L_low (by omega) (by omega) (fun i hi => ?_)
    refine r_L_law_121 (by omega) (by omega) (s_L_low (by omega) (by omega) (fun r hr => ?_))
    exact g135 kd i _ _ hd hi
  · rw [nI_leI (by omega) (by omega)] at z
    refine s_L_low (by omega) (by omega) (fun r hr => ?_)
    exact g135 0 j _ _ (by omega) (by omega)
set_option maxRecDepth 100000 in
/-- all turns -/
theorem a_loop {L : Nat} {scr : Nat → Int32} (hL : L ≤ 260) {Q : Option Value → sn_H → Prop} (HQ : ∀ h, Q (some (.int (nI 1))) h) : ∀ m j h c1 c2, j + m = 44 → LI L scr h → c1 ≤ 200 + 99 * j → c2 ≤ 5000 + 1922 * j → wpE 80 56 [some (.ref 0), some (.ref 1), some (.ref 103), some (.ref 104), some (.ref 105), some (.ref 106), some (.int (nI j)), none, none, none, none, none, none, none, none, none, none, none] [] h (c1, c2) Q := by
  intro m
  induction m with
  | zero =>
    intro j h c1 c2 hj I l1 l2
    have e : j = 44 := hj
    subst e
    exact r_L_law_56 (fun _ => HQ h) (fun y => absurd (Int32.le_refl _) y) (fun y => absurd (Int32.le_refl _) y) (fun y => absurd (Int32.le_refl _) y)
  | succ m ih =>
    intro j h c1 c2 hj I l1 l2
    refine a_turn hL (by omega) (by omega) (by omega) I (fun h' c1' c2' I' b1 b2 => r_L_law_985 ?_)
    rw [nI_s]
    exact ih (j + 1) h' c1' c2' (by omega) I' (by omega) (by omega)
