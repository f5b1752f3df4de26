/-! ===== the law's same: the order ===== -/
theorem nI_pr {b : Nat} (h : 1 ≤ b) : nI b + -(nI 1) = nI (b - 1) := by
  rw [← Int32.sub_eq_add_neg]
  exact pk_sub h
section
variable {L : Nat} {scr : Nat → Int32} {σ : sn_V} {q cc v t : Nat → Int32} {c c1 c2 : Nat} {Q : Option Value → sn_H → Prop}
/-- may the number b come next? -/
theorem t_is {h : sn_H} {e b v11 : Nat} {gone v10 : Int32} {v5 v6 v7 : Int32} (D : WD L scr h σ q cc v t) (R : PR c σ q cc v t) (E : BE h e (sh (gRk σ c))) (b1 : 1 ≤ b) (b2 : b ≤ c)
    (K1 : pG gone (gRk σ c) c c b = true → wpE 59 679 [some (.ref 1), some (.ref 103), some (.ref 104), some (.ref 105), some (.ref 106), some (.int v5), some (.int v6), some (.int v7), some (.ref e), some (.int gone), some (.int v10), some (.int (nI b)), some (.int (nI (b - 1))), none, none, none] [] h (c1, c2) Q)
    (K2 : pG gone (gRk σ c) c c b = false → wpE 59 679 [some (.ref 1), some (.ref 103), some (.ref 104), some (.ref 105), some (.ref 106), some (.int v5), some (.int v6), some (.int v7), some (.ref e), some (.int gone), some (.int v10), some (.int (nI v11)), some (.int (nI (b - 1))), none, none, none] [] h (c1, c2) Q) :
    ∀ m a, a + m = c → wpE 59 704 [some (.ref 1), some (.ref 103), some (.ref 104), some (.ref 105), some (.ref 106), some (.int v5), some (.int v6), some (.int v7), some (.ref e), some (.int gone), some (.int v10), some (.int (nI v11)), some (.int (nI b)), some (.int (bi (pG gone (gRk σ c) c a b))), some (.int (nI (a + 1))), none] [] h (c1, c2) Q := by
  have c15 := R.c15
  have q0 : hG h 103 (nI 0).toNatClampNeg = nI c := by rw [D.gq (by omega)]; exact R.q0
  intro m
  induction m with
  | zero =>
    intro a ha
    have e' : a = c := ha
    subst e'
    have l : hG h 103 (nI 0).toNatClampNeg < nI (a + 1) := by rw [q0]; exact nI_lt (by omega) (by omega)
    refine r_L_same_704 D.kq E.1 (inb (by omega)) (fun _ y => ?_) (fun _ y => ?_) (fun y => absurd l y) (fun y => absurd l y) (fun y => absurd l y) (fun y => absurd l y) (fun y => absurd l y)
    · rw [bi_0] at y
      rw [nI_pr b1]
      exact K2 y
    · rw [bi_0, Bool.not_eq_false] at y
      rw [nI_pr b1]
      exact K1 y
  | succ m ih =>
    intro a ha
    have l : ¬ hG h 103 (nI 0).toNatClampNeg < nI (a + 1) := by rw [q0]; exact nI_nlt (by omega) (by omega)
    have h9 := ih (a + 1) (by omega)
    have st : pG gone (gRk σ c) c (a + 1) b = (pG gone (gRk σ c) c a b && !(!decide (bitP gone (a + 1)) && gRk σ c a (b - 1))) := by
      unfold pG
      show (!decide (bitP gone b) && !(anyN _ a || (!decide (bitP gone (a + 1)) && gRk σ c a (b - 1)))) = _
      rw [Bool.not_or, Bool.and_assoc]
    have ca : (nI (a + 1)).toNatClampNeg = a + 1 := cl (by omega)
    have bE : (((hG h e (nI (a + 1)).toNatClampNeg) >>> (nI b &&& 31)) &&& nI 1) = 0 ↔ gRk σ c a (b - 1) = false := by
      rw [ca, bit_n0, E.2 (a + 1) b (by omega) (by omega), sh_t, Nat.add_sub_cancel, ← Bool.not_eq_true]
      exact ⟨fun z y => z ⟨by omega, b1, y⟩, fun z y => z y.2.2⟩
    refine r_L_same_704 D.kq E.1 (inb (by omega)) (fun y => absurd y l) (fun y => absurd y l) (fun _ y => ?_) (fun _ y z => ?_) (fun _ _ _ => inb (by omega)) (fun _ y z w => ?_) (fun _ y z w => ?_)
    · rw [bi_0] at y
      rw [st, y, Bool.false_and] at h9
      rw [nI_s]
      exact h9
    · rw [bi_0, Bool.not_eq_false] at y
      have z : bitP gone (a + 1) := z
      rw [st, y, decide_eq_true z] at h9
      rw [nI_s]
      exact h9
    · rw [bi_0, Bool.not_eq_false] at y
      have z : ¬ bitP gone (a + 1) := z
      rw [bE, Bool.not_eq_false] at w
      rw [st, y, decide_eq_false z, w] at h9
      rw [nI_s]
      exact h9
    · rw [bi_0, Bool.not_eq_false] at y
      rw [bE] at w
      rw [st, y, w, Bool.and_false] at h9
      rw [nI_s]
      exact h9
/-- the lowest one that may come next -/
theorem t_next {h : sn_H} {e : Nat} {gone v10 : Int32} {v5 v6 v7 : Int32} (D : WD L scr h σ q cc v t) (R : PR c σ q cc v t) (E : BE h e (sh (gRk σ c)))
    (K : ∀ r, LOW (pG gone (gRk σ c) c c) c 0 r → wpE 59 679 [some (.ref 1), some (.ref 103), some (.ref 104), some (.ref 105), some (.ref 106), some (.int v5), some (.int v6), some (.int v7), some (.ref e), some (.int gone), some (.int v10), some (.int (nI r)), some (.int (nI 0)), none, none, none] [] h (c1, c2) Q) :
    ∀ b r, b ≤ c → LOW (pG gone (gRk σ c) c c) c b r → wpE 59 679 [some (.ref 1), some (.ref 103), some (.ref 104), some (.ref 105), some (.ref 106), some (.int v5), some (.int v6), some (.int v7), some (.ref e), some (.int gone), some (.int v10), some (.int (nI r)), some (.int (nI b)), none, none, none] [] h (c1, c2) Q := by
  have c15 := R.c15
  intro b
  induction b with
  | zero => intro r _ l; exact K r l
  | succ b ih =>
    intro r hb l
    have rc := l.le
    have nl : ¬ nI (b + 1) ≤ 0 := by rw [nI_le0 (by omega)]; omega
    have step := t_is (v11 := r) (gone := gone) (v10 := v10) (v5 := v5) (v6 := v6) (v7 := v7) (c1 := c1) (c2 := c2) (Q := Q) D R E (b := b + 1) (by omega) hb (fun y => ih (b + 1) (by omega) (LOW.yes hb y)) (fun y => ih r (by omega) (l.no y)) c 0 (by omega)
    have p0 : pG gone (gRk σ c) c 0 (b + 1) = !decide (bitP gone (b + 1)) := by
      unfold pG
      show (!decide (bitP gone (b + 1)) && !false) = _
      rw [Bool.not_false, Bool.and_true]
    rw [p0] at step
    refine r_L_same_679 D.k1 (fun y => absurd y nl) (fun y => absurd y nl) (fun y => absurd y nl) (fun _ y => ?_) (fun _ y => ?_)
    · rw [bit_n0, Classical.not_not] at y
      rw [decide_eq_true y] at step
      exact r_L_same_698 step
    · rw [bit_n0] at y
      rw [decide_eq_false y] at step
      exact step
theorem t_order {e : Nat} (he : 106 < e) (R : PR c σ q cc v t) (l1 : c1 ≤ 80) (l2 : c2 ≤ 1500) (H : ∀ h', WD L scr h' σ q cc v t → Q (some (.int (nI 1))) h') : ∀ m idx gone h, idx + m = c + 1 → WD L scr h σ q cc v t → BE h e (sh (gRk σ c)) → (rcN (gRk σ c) c = 0 → ∀ b, 1 ≤ b → b ≤ c → (bitP gone b ↔ opl (gRk σ c) c idx (b - 1) = true)) →
    wpE 59 663 [some (.ref 1), some (.ref 103), some (.ref 104), some (.ref 105), some (.ref 106), some (.int (nI (opN σ 4))), some (.int (nI (rcN (gRk σ c) c))), some (.int (nI (smN (skN (gOk σ c) c) c 0))), some (.ref e), some (.int gone), some (.int (nI idx)), none, none, none, none, none] [] h (c1, c2) Q := by
  have c15 := R.c15
  have hlt := gRk_lt (σ := σ) R.m16
  intro m
  induction m with
  | zero =>
    intro idx gone h hi D E G
    have q0 : hG h 103 (nI 0).toNatClampNeg = nI c := by rw [D.gq (by omega)]; exact R.q0
    have l : hG h 103 (nI 0).toNatClampNeg < nI idx := by rw [q0]; exact nI_lt (by omega) (by omega)
    refine r_L_same_663 D.kq (inb (by omega)) (fun _ => ?_) (fun y => absurd l y)
    exact t_holds D R l1 l2 H 3 0 rfl
  | succ m ih =>
    intro idx gone h hi D E G
    have q0 : hG h 103 (nI 0).toNatClampNeg = nI c := by rw [D.gq (by omega)]; exact R.q0
    have l : ¬ hG h 103 (nI 0).toNatClampNeg < nI idx := by rw [q0]; exact nI_nlt (by omega) (by omega)
    refine r_L_same_663 D.kq (inb (by omega)) (fun y => absurd y l) (fun _ => ?_)
    rw [q0]
    refine t_next D R E (fun r lw => ?_) c 0 (Nat.le_refl c) LOW.init
    have rc := lw.le
    refine r_L_same_679 D.k1 (fun _ => l1) (fun _ => l2) (fun _ => ?_) (fun y => absurd (by rw [nI_0]; exact Int32.le_refl _) y) (fun y => absurd (by rw [nI_0]; exact Int32.le_refl _) y)
    refine x_orderAt D R (by omega) (fun h' u D' f hu => ?_)
    have E' := f.BE E (by omega)
    have go : (rcN (gRk σ c) c = 0 → ∀ b, 1 ≤ b → b ≤ c → (bitP (gone ||| (nI 1 <<< (nI r &&& 31))) b ↔ opl (gRk σ c) c (idx + 1) (b - 1) = true)) → wpE 59 663 [some (.ref 1), some (.ref 103), some (.ref 104), some (.ref 105), some (.ref 106), some (.int (nI (opN σ 4))), some (.int (nI (rcN (gRk σ c) c))), some (.int (nI (smN (skN (gOk σ c) c) c 0))), some (.ref e), some (.int (gone ||| (nI 1 <<< (nI r &&& 31)))), some (.int (nI idx + nI 1)), none, none, none, none, none] [] h' (c1, c2) Q := fun G' => by
      rw [nI_s]
      exact ih (idx + 1) _ h' (by omega) D' E' G'
    have rl := @rc_le (gRk σ c) c
    by_cases rz : rcN (gRk σ c) c = 0
    · have ok := ord_ok hlt (rc_0.mp rz)
      have uc : u = c := by
        rcases hu with ⟨a, _⟩ | ⟨a, x, x1, _, x2⟩
        · exact a
        · have := ok x x1; omega
      have np : ¬ (0 : Int32) < nI (rcN (gRk σ c) c) := by rw [rz, nI_0]; decide
      have G0 := G rz
      have nxt := lw.nx G0
      have G1 : ∀ b, 1 ≤ b → b ≤ c → (bitP (gone ||| (nI 1 <<< (nI r &&& 31))) b ↔ opl (gRk σ c) c (idx + 1) (b - 1) = true) := by
        intro b b1 b2
        rw [bitP_put (by omega) (by omega), G0 b b1 b2]
        show _ ↔ (opl (gRk σ c) c idx (b - 1) || decide (b - 1 = odN (gRk σ c) c idx)) = true
        rw [Bool.or_eq_true, decide_eq_true_iff]
        rcases nxt with ⟨a1, a2⟩ | ⟨a1, a2⟩
        · rw [a1, a2]
          exact ⟨fun z => z.elim Or.inl (fun w => by omega), fun z => z.elim Or.inl (fun w => by omega)⟩
        · rw [a1]
          exact ⟨fun z => z.elim Or.inl (fun w => Or.inr (by omega)), fun z => z.elim Or.inl (fun w => Or.inr (by omega))⟩
      by_cases ic : idx < c
      · have oc := ok idx ic
        rw [if_pos (by omega)]
        rcases nxt with ⟨a1, a2⟩ | ⟨a1, a2⟩
        · omega
        · have rn : ¬ nI r = 0 := by rw [← nI_0, nI_eq (by omega) (by omega)]; omega
          refine r_L_same_780 (fun y => absurd y np) (fun y => absurd y np) (fun _ _ _ => go (fun _ => G1)) (fun _ _ y => absurd (by rw [a1]) y) (fun _ y => absurd y rn) (fun _ y => absurd y rn)
      · rw [if_neg (by omega)]
        have r0 : r = 0 := by
          rcases nxt with ⟨a1, a2⟩ | ⟨a1, a2⟩
          · exact a1
          · have := odN_more (R := gRk σ c) (n := c) (t := idx) (fun u hu => ok u (by omega)) a2
            omega
        have rn : nI r = 0 := by rw [r0, nI_0]
        exact r_L_same_780 (fun y => absurd y np) (fun y => absurd y np) (fun _ y => absurd rn y) (fun _ y => absurd rn y) (fun _ _ _ => go (fun _ => G1)) (fun _ _ y => absurd rfl y)
    · have u0 : u = 0 := by
        rcases hu with ⟨a, b⟩ | ⟨a, _⟩
        · exact absurd (rc_0.mpr (ord_noring hlt b)) rz
        · exact a
      have ps : (0 : Int32) < nI (rcN (gRk σ c) c) := by rw [← nI_0]; exact nI_lt (by omega) (by omega)
      rw [if_neg (by omega)]
      exact r_L_same_780 (fun _ _ => go (fun z => absurd z rz)) (fun _ y => absurd rfl y) (fun y => absurd ps y) (fun y => absurd ps y) (fun y => absurd ps y) (fun y => absurd ps y)
end
