/-! ===== the law's same: commits and pairs of them ===== -/
section
variable {L : Nat} {scr : Nat → Int32} {σ : sn_V} {q cc v t : Nat → Int32} {c c1 c2 : Nat} {Q : Option Value → sn_H → Prop}
theorem t_pairs {h : sn_H} {e l S : Nat} {v5 v6 : Int32} (D : WD L scr h σ q cc v t) (R : PR c σ q cc v t) (l1 : c1 ≤ 80) (l2 : c2 ≤ 1500) (hl : l < c)
    (K : wpE 59 469 [some (.ref 1), some (.ref 103), some (.ref 104), some (.ref 105), some (.ref 106), some (.int v5), some (.int v6), some (.int (nI (S + skT (gOk σ c) (l + 1) c))), some (.ref e), some (.int (nI (l + 1 + 1))), none, none, none, none, none, none] [] h (c1, c2) Q) :
    ∀ m b, b + m = c → wpE 59 555 [some (.ref 1), some (.ref 103), some (.ref 104), some (.ref 105), some (.ref 106), some (.int v5), some (.int v6), some (.int (nI (S + skT (gOk σ c) (l + 1) b))), some (.ref e), some (.int (nI (l + 1))), some (.int (nI (b + 1))), none, none, none, none, none] [] h (c1, c2) Q := by
  have c15 := R.c15
  have A := D.2.2.LQ R
  have SL0 : SL c c (-(nI 1)) t (fun _ => 0) := Or.inl ⟨rfl, rfl⟩
  have hsp := R.hsk (fun _ => 0)
  have q0 : hG h 103 (nI 0).toNatClampNeg = nI c := by rw [D.gq (by omega)]; exact R.q0
  intro m
  induction m with
  | zero =>
    intro b hb
    have e' : b = c := hb
    subst e'
    have lt : hG h 103 (nI 0).toNatClampNeg < nI (b + 1) := by rw [q0]; exact nI_lt (by omega) (by omega)
    refine r_L_same_555 D.kq D.k1 (inb (by omega)) (fun _ => ?_) (fun y => absurd lt y) (fun y => absurd lt y) (fun y => absurd lt y) (fun y => absurd lt y)
    rw [nI_s]
    exact K
  | succ m ih =>
    intro b hb
    have nl : ¬ hG h 103 (nI 0).toNatClampNeg < nI (b + 1) := by rw [q0]; exact nI_nlt (by omega) (by omega)
    have h9 := ih (b + 1) (by omega)
    refine r_L_same_555 D.kq D.k1 (inb (by omega)) (fun y => absurd y nl) (fun _ _ => l1) (fun _ _ => l2) (fun _ y => ?_) (fun _ y => ?_)
    · rw [nI_eq (by omega) (by omega)] at y
      refine x_dependency (fun _ => 0) D R (by omega) (by omega) (by omega) (by omega) y ?_
      refine r_L_same_581 l1 l2 (s_L_depends A SL0 hsp ⟨by omega, by omega⟩ ⟨by omega, by omega⟩ ?_)
      refine r_L_same_593 (fun _ z => ?_) (fun _ _ => l1) (fun _ _ => l2) (fun _ z => ?_) (fun z => absurd rfl z)
      · rw [nI_leI (by omega) (by omega)] at z
        rw [skT_lo (by omega)] at h9
        rw [add_n0, nI_s]
        exact h9
      · rw [nI_leI (by omega) (by omega)] at z
        refine s_L_depends A SL0 hsp ⟨by omega, by omega⟩ ⟨by omega, by omega⟩ ?_
        refine r_L_same_619 l1 l2 (s_L_depends A SL0 hsp ⟨by omega, by omega⟩ ⟨by omega, by omega⟩ ?_)
        rw [skT_hi (by omega), Nat.add_sub_cancel] at h9
        have sk := R.sk (fun _ => 0) (a := l + 1) (b := b + 1) (by omega) (by omega) (by omega) (by omega) y
        rw [Nat.add_sub_cancel, Nat.add_sub_cancel] at sk
        refine r_L_same_631 (fun w => ?_) (fun w => ?_)
        · rw [sk] at w
          rw [w] at h9
          rw [add_n0, nI_s]
          exact h9
        · rw [sk, Bool.not_eq_false] at w
          rw [w] at h9
          rw [nI_s, nI_s]
          exact h9
    · rw [nI_eq (by omega) (by omega)] at y
      rw [skT_0 (by omega)] at h9 ⊢
      rw [nI_s]
      exact h9
theorem t_commits {e : Nat} (he : 106 < e) (R : PR c σ q cc v t) (H : ∀ h', WD L scr h' σ q cc v t → Q (some (.int (nI 1))) h') : ∀ m l h c1 c2, l + m = c → WD L scr h σ q cc v t → BE h e (sh (gRk σ c)) → e < hN h → c1 ≤ 60 + l → c2 ≤ 1100 + 18 * l →
    wpE 59 469 [some (.ref 1), some (.ref 103), some (.ref 104), some (.ref 105), some (.ref 106), some (.int (nI (opN σ 4))), some (.int (nI (smN (fun i => b01 (wal (gRk σ c) c i i)) l 0))), some (.int (nI (smN (skN (gOk σ c) c) l 0))), some (.ref e), some (.int (nI (l + 1))), none, none, none, none, none, none] [] h (c1, c2) Q := by
  have c15 := R.c15
  have hlt := gRk_lt (σ := σ) R.m16
  intro m
  induction m with
  | zero =>
    intro l h c1 c2 hl D E eN l1 l2
    have e' : l = c := hl
    subst e'
    have q0 : hG h 103 (nI 0).toNatClampNeg = nI l := by rw [D.gq (by omega)]; exact R.q0
    have lt : hG h 103 (nI 0).toNatClampNeg < nI (l + 1) := by rw [q0]; exact nI_lt (by omega) (by omega)
    refine r_L_same_469 D.kq D.k1 (inb (by omega)) (fun _ => ?_) (fun y => absurd lt y) (fun y => absurd lt y) (fun y => absurd lt y)
    exact t_order he R (by omega) (by omega) H (l + 1) 0 (nI 0) h (by omega) D E (fun _ b b1 b2 => ⟨fun z => absurd z (bitP_n0 (by omega)), fun z => absurd z (by show ¬ false = true; decide)⟩)
  | succ m ih =>
    intro l h c1 c2 hl D E eN l1 l2
    have q0 : hG h 103 (nI 0).toNatClampNeg = nI c := by rw [D.gq (by omega)]; exact R.q0
    have nl : ¬ hG h 103 (nI 0).toNatClampNeg < nI (l + 1) := by rw [q0]; exact nI_nlt (by omega) (by omega)
    refine r_L_same_469 D.kq D.k1 (inb (by omega)) (fun y => absurd y nl) (fun _ => by omega) (fun _ => by omega) (fun _ => x_ofCommit D R (by omega) (by omega) (j := 0) (by omega) ?_)
    have e0 : cc (16 * 0 + (l + 1)) = hG h 104 (nI (l + 1)).toNatClampNeg := by rw [D.gc (by omega)]; congr 1; omega
    have e1 : cc (16 * 1 + (l + 1)) = hG h 104 (nI 16 + nI (l + 1)).toNatClampNeg := by rw [nI_add, D.gc (by omega)]
    have e2 : cc (16 * 2 + (l + 1)) = hG h 104 (nI 32 + nI (l + 1)).toNatClampNeg := by rw [nI_add, D.gc (by omega)]
    refine r_L_same_484 D.kc D.k1 (inb (by omega)) (fun y => absurd e0 y) (fun _ => by omega) (fun _ => by omega) (fun _ => x_ofCommit D R (by omega) (by omega) (j := 1) (by omega) ?_)
    refine r_L_same_498 D.kc D.k1 (by rw [nI_add]; exact inb (by omega)) (fun y => absurd e1 y) (fun _ => by omega) (fun _ => by omega) (fun _ => x_ofCommit D R (by omega) (by omega) (j := 2) (by omega) ?_)
    refine r_L_same_515 D.kc (by rw [nI_add]; exact inb (by omega)) (fun _ => by omega) (fun _ => by omega) (fun _ => ?_) (fun y => absurd e2 y)
    refine s_L_steps E ⟨by omega, by omega⟩ eN (fun h1 Dd w wn Ad st => ?_)
    have D1 := D.nw w
    have E1 := w.BE E eN
    have wl := w.1
    have rg := st_ring (n := c) (l := l) (by omega) (by omega) hlt gR_irr st
    have ed' : hG h1 (hN h) (nI (l + 1)).toNatClampNeg = nI (Dd (l + 1)) := by rw [cl (by omega), Ad.2 _ (by omega)]
    have d99 := st.1 (l + 1)
    have nx : ∀ v6 : Int32, v6 = nI (smN (fun i => b01 (wal (gRk σ c) c i i)) (l + 1) 0) → wpE 59 555 [some (.ref 1), some (.ref 103), some (.ref 104), some (.ref 105), some (.ref 106), some (.int (nI (opN σ 4))), some (.int v6), some (.int (nI (smN (skN (gOk σ c) c) l 0))), some (.ref e), some (.int (nI (l + 1))), some (.int (nI 1)), none, none, none, none, none] [] h1 (c1 + 1, c2 + 18) Q := by
      rintro v6 rfl
      have K := ih (l + 1) h1 (c1 + 1) (c2 + 18) (by omega) D1 E1 (by omega) (by omega) (by omega)
      have es : smN (skN (gOk σ c) c) (l + 1) 0 = smN (skN (gOk σ c) c) l 0 + skT (gOk σ c) (l + 1) c := by
        rw [smN_last, Nat.zero_add, skT_end (by omega), Nat.add_sub_cancel]
      rw [es] at K
      have := t_pairs (S := smN (skN (gOk σ c) c) l 0) D1 R (by omega) (by omega) (by omega) K c 0 (Nat.zero_add c)
      rw [skT_0 (by omega), Nat.add_zero] at this
      exact this
    have sl : smN (fun i => b01 (wal (gRk σ c) c i i)) (l + 1) 0 = smN (fun i => b01 (wal (gRk σ c) c i i)) l 0 + b01 (wal (gRk σ c) c l l) := by rw [smN_last, Nat.zero_add]
    refine r_L_same_536 Ad.1 (inb (by omega)) (fun y => ?_) (fun y => ?_)
    · rw [ed', nI_leI (by omega) (by omega)] at y
      refine nx _ ?_
      have : wal (gRk σ c) c l l = false := by
        cases z : wal (gRk σ c) c l l with
        | false => rfl
        | true => have := rg.mpr z; omega
      rw [sl, this, add_n0]
      rfl
    · rw [ed', nI_leI (by omega) (by omega)] at y
      refine nx _ ?_
      rw [sl, rg.mp (by omega), nI_s]
      rfl
end
