/-! ===== the law's same: slots; the whole ===== -/
section
variable {L : Nat} {scr : Nat → Int32} {σ : sn_V} {q cc v t : Nat → Int32} {c : Nat} {Q : Option Value → sn_H → Prop}
/-- the next one of the ring, as the law finds it -/
theorem t_rnext {h : sn_H} {e d i at' left idx c1 c2 : Nat} {Rg : Nat → Nat → Bool} {Dd : Nat → Nat} {v5 v8 : Int32} (D : WD L scr h σ q cc v t) (R : PR c σ q cc v t) (E : BE h e Rg) (A : DA h d Dd) (l1 : c1 ≤ 80) (l2 : c2 ≤ 1500) (ha : at' < 18) (hl : 1 ≤ left ∧ left < 99) (hd : ∀ x, Dd x ≤ 99)
    (K : ∀ r, LOW (fun x => Rg at' x && decide (Dd x = left - 1)) c 0 r → wpE 59 330 [some (.ref 1), some (.ref 103), some (.ref 104), some (.ref 105), some (.ref 106), some (.int v5), some (.int (nI i)), none, some (.int v8), some (.ref e), some (.ref d), some (.int (nI at')), some (.int (nI left)), some (.int (nI idx)), some (.int (nI r)), some (.int (nI 0))] [] h (c1, c2) Q) :
    ∀ b r, b ≤ c → LOW (fun x => Rg at' x && decide (Dd x = left - 1)) c b r → wpE 59 330 [some (.ref 1), some (.ref 103), some (.ref 104), some (.ref 105), some (.ref 106), some (.int v5), some (.int (nI i)), none, some (.int v8), some (.ref e), some (.ref d), some (.int (nI at')), some (.int (nI left)), some (.int (nI idx)), some (.int (nI r)), some (.int (nI b))] [] h (c1, c2) Q := by
  have c15 := R.c15
  intro b
  induction b with
  | zero => intro r _ l; exact K r l
  | succ b ih =>
    intro r hb l
    have nl : ¬ nI (b + 1) ≤ 0 := by rw [nI_le0 (by omega)]; omega
    have bE : (((hG h e (nI at').toNatClampNeg) >>> (nI (b + 1) &&& 31)) &&& nI 1) = nI 1 ↔ Rg at' (b + 1) = true := by rw [cl (by omega : at' < 2 ^ 31)]; exact E.2 at' (b + 1) ha (by omega)
    have dD : hG h d (nI (b + 1)).toNatClampNeg = nI left - nI 1 ↔ Dd (b + 1) = left - 1 := by
      have := hd (b + 1)
      rw [cl (by omega : b + 1 < 2 ^ 31), A.2 _ (by omega), pk_sub hl.1, nI_eq (by omega) (by omega)]
    refine r_L_same_330 D.k1 E.1 A.1 (fun y => absurd y nl) (fun y => absurd y nl) (fun y => absurd y nl) (fun y => absurd y nl) (fun _ => inb (by omega)) (fun _ y => ?_) (fun _ _ => inb (by omega)) (fun _ y z => ?_) (fun _ y z => ?_)
    · rw [bE] at y
      rw [nI_pr (by omega), Nat.add_sub_cancel]
      exact ih r (by omega) (l.no (by show (Rg at' (b + 1) && _) = false; rw [Bool.eq_false_iff.mpr y, Bool.false_and]))
    · rw [dD] at z
      rw [nI_pr (by omega), Nat.add_sub_cancel]
      exact ih r (by omega) (l.no (by show (_ && decide (Dd (b + 1) = left - 1)) = false; rw [decide_eq_false z, Bool.and_false]))
    · rw [bE] at y
      rw [dD] at z
      rw [nI_pr (by omega), Nat.add_sub_cancel]
      exact ih (b + 1) (by omega) (LOW.yes hb (by show (Rg at' (b + 1) && decide (Dd (b + 1) = left - 1)) = true; rw [y, decide_eq_true z]; rfl))
/-- the ring of a transaction -/
theorem t_ring {e d i c1 c2 : Nat} {Dd : Nat → Nat} {v5 : Int32} (R : PR c σ q cc v t) (hi : i < 4) (ho : bitP (σ 0 3) i) (he : 106 < e) (hd : 106 < d) (st : stO (sh (gRo σ c i)) (c + 1) Dd) (l1 : c1 ≤ 80) (l2 : c2 ≤ 1500)
    (K : ∀ h', WD L scr h' σ q cc v t → wpE 59 442 [some (.ref 1), some (.ref 103), some (.ref 104), some (.ref 105), some (.ref 106), some (.int v5), some (.int (nI i)), none, none, none, none, none, none, none, none, none] [] h' (c1, c2) Q) :
    ∀ m u h, u + m = rgQ (gRo σ c i) (c + 1) → WD L scr h σ q cc v t → BE h e (sh (gRo σ c i)) → DA h d Dd →
    wpE 59 309 [some (.ref 1), some (.ref 103), some (.ref 104), some (.ref 105), some (.ref 106), some (.int v5), some (.int (nI i)), none, some (.int (nI (c + 1))), some (.ref e), some (.ref d), some (.int (nI (rgN (gRo σ c i) (dst (gRo σ c i) (c + 1) c c) (c + 1) (rgQ (gRo σ c i) (c + 1)) u + 1))), some (.int (nI (Dd (c + 1) - u))), some (.int (nI (u + 1))), none, none] [] h (c1, c2) Q := by
  have c15 := R.c15
  have hlt := gRo_lt (σ := σ) (i := i) R.m16
  obtain ⟨s1, s2⟩ := st_rgQ c15 hlt gR_irr st
  have tail : ∀ h, WD L scr h σ q cc v t → DA h d Dd → wpE 59 409 [some (.ref 1), some (.ref 103), some (.ref 104), some (.ref 105), some (.ref 106), some (.int v5), some (.int (nI i)), none, some (.int (nI (c + 1))), none, some (.ref d), none, none, none, none, none] [] h (c1, c2) Q := by
    intro h D A
    have ed' : hG h d (nI (c + 1)).toNatClampNeg = nI (Dd (c + 1)) := by rw [cl (by omega), A.2 _ (by omega)]
    have d99 := st.1 (c + 1)
    refine r_L_same_409 A.1 D.k1 (inb (by omega)) (fun _ => l1) (fun _ => l2) (fun y => ?_) (fun _ => l1) (fun _ => l2) (fun y => ?_)
    · rw [ed', nI_leI (by omega) (by omega)] at y
      refine x_ringOf D R hi ho (Nat.le_refl 1) (by omega) (fun h' D' f => ?_)
      have z : rgQ (gRo σ c i) (c + 1) = 0 := by
        apply Classical.byContradiction
        intro w
        rw [if_neg w] at s1
        omega
      rw [if_neg (by omega)]
      exact r_L_same_434 (fun _ => K h' D') (fun y => absurd rfl y)
    · rw [ed', nI_leI (by omega) (by omega)] at y
      have z : ¬ rgQ (gRo σ c i) (c + 1) = 0 := fun w => by rw [if_pos w] at s1; omega
      rw [if_neg z] at s1
      rw [ed']
      refine x_ringOf D R hi ho (by omega) (by omega) (fun h' D' f => ?_)
      rw [if_neg (by omega)]
      exact r_L_same_434 (fun _ => K h' D') (fun y => absurd rfl y)
  intro m
  induction m with
  | zero =>
    intro u h hu D E A
    have hu : u = rgQ (gRo σ c i) (c + 1) := hu
    refine r_L_same_309 D.kq (fun _ => tail h D A) (fun _ _ => tail h D A) (fun y z => ?_) (fun y z => ?_)
    all_goals
      exfalso
      by_cases w : rgQ (gRo σ c i) (c + 1) = 0
      · rw [if_pos w] at s1
        rw [hu, w, s1, Nat.sub_zero] at y
        exact y (Int32.le_refl _)
      · rw [if_neg w] at s1
        rw [hu, s1, show rgQ (gRo σ c i) (c + 1) + 1 - rgQ (gRo σ c i) (c + 1) = 1 by omega] at z
        exact z (Int32.le_refl _)
  | succ m ih =>
    intro u h hu D E A
    have rq : ¬ rgQ (gRo σ c i) (c + 1) = 0 := by omega
    rw [if_neg rq] at s1
    obtain ⟨n1, n2, n3, n4⟩ := rg_nxt c15 hlt gR_irr u (by omega)
    have rn : rgN (gRo σ c i) (dst (gRo σ c i) (c + 1) c c) (c + 1) (rgQ (gRo σ c i) (c + 1)) u < c + 1 := rgN_lt (by omega) u
    -- distances in the law's numbers
    have dm : ∀ x, x < c → Dd (x + 1) = if dst (gRo σ c i) (c + 1) c c x = 17 then 99 else dst (gRo σ c i) (c + 1) c c x := fun x hx => by
      have := st_M1 (n := c + 1) (l := c) (by omega) (by omega) hlt st (i := x) (by omega) (by omega)
      rw [Nat.add_sub_cancel] at this
      exact this
    have low : ∀ r, LOW (fun x => sh (gRo σ c i) (rgN (gRo σ c i) (dst (gRo σ c i) (c + 1) c c) (c + 1) (rgQ (gRo σ c i) (c + 1)) u + 1) x && decide (Dd x = Dd (c + 1) - u - 1)) c 0 r → r = rgN (gRo σ c i) (dst (gRo σ c i) (c + 1) c c) (c + 1) (rgQ (gRo σ c i) (c + 1)) (u + 1) + 1 := by
      intro r lw
      have hit : (sh (gRo σ c i) (rgN (gRo σ c i) (dst (gRo σ c i) (c + 1) c c) (c + 1) (rgQ (gRo σ c i) (c + 1)) u + 1) (rgN (gRo σ c i) (dst (gRo σ c i) (c + 1) c c) (c + 1) (rgQ (gRo σ c i) (c + 1)) (u + 1) + 1) && decide (Dd (rgN (gRo σ c i) (dst (gRo σ c i) (c + 1) c c) (c + 1) (rgQ (gRo σ c i) (c + 1)) (u + 1) + 1) = Dd (c + 1) - u - 1)) = true := by
        rw [sh_ss.mpr n2, dm _ n1, n3, if_neg (by omega), decide_eq_true (by omega)]
        rfl
      have fe : fstN (fun x => sh (gRo σ c i) (rgN (gRo σ c i) (dst (gRo σ c i) (c + 1) c c) (c + 1) (rgQ (gRo σ c i) (c + 1)) u + 1) (x + 1) && decide (Dd (x + 1) = Dd (c + 1) - u - 1)) c 0 = rgN (gRo σ c i) (dst (gRo σ c i) (c + 1) c c) (c + 1) (rgQ (gRo σ c i) (c + 1)) (u + 1) := by
        refine fstN_eq n1 hit (fun x hx => ?_)
        rw [Bool.and_eq_false_iff, decide_eq_false_iff_not]
        by_cases w : sh (gRo σ c i) (rgN (gRo σ c i) (dst (gRo σ c i) (c + 1) c c) (c + 1) (rgQ (gRo σ c i) (c + 1)) u + 1) (x + 1) = true
        · refine Or.inr (fun z => ?_)
          rw [dm x (by omega)] at z
          refine n4 x hx ⟨sh_ss.mp w, ?_⟩
          by_cases y : dst (gRo σ c i) (c + 1) c c x = 17
          · rw [if_pos y] at z; omega
          · rw [if_neg y] at z; omega
        · exact Or.inl (Bool.eq_false_iff.mpr w)
      rcases lw.fst with ⟨_, z⟩ | ⟨z, _⟩
      · have z : fstN (fun x => sh (gRo σ c i) (rgN (gRo σ c i) (dst (gRo σ c i) (c + 1) c c) (c + 1) (rgQ (gRo σ c i) (c + 1)) u + 1) (x + 1) && decide (Dd (x + 1) = Dd (c + 1) - u - 1)) c 0 = c := z
        omega
      · rw [z]; exact congrArg (fun y => y + 1) fe
    refine r_L_same_309 D.kq (fun y => ?_) (fun _ y => ?_) (fun _ _ => inb (by omega)) (fun _ _ => ?_)
    · exfalso; rw [nI_leI (by omega) (by omega)] at y; omega
    · exfalso; rw [nI_leI (by omega) (by omega)] at y; omega
    · rw [D.gq (by omega), R.q0]
      refine t_rnext D R E A l1 l2 (by omega) ⟨by omega, by omega⟩ st.1 (fun r lw => ?_) c 0 (Nat.le_refl c) LOW.init
      have er := low r lw
      have r0 : ¬ nI r = 0 := by rw [← nI_0, nI_eq (by omega) (by omega)]; omega
      refine r_L_same_330 D.k1 E.1 A.1 (fun _ y => absurd y r0) (fun _ _ => l1) (fun _ _ => l2) (fun _ _ => ?_) (fun y => absurd (by rw [nI_0]; exact Int32.le_refl _) y) (fun y => absurd (by rw [nI_0]; exact Int32.le_refl _) y) (fun y => absurd (by rw [nI_0]; exact Int32.le_refl _) y) (fun y => absurd (by rw [nI_0]; exact Int32.le_refl _) y) (fun y => absurd (by rw [nI_0]; exact Int32.le_refl _) y)
      refine x_ringOf D R hi ho (by omega) (by omega) (fun h' D' f => ?_)
      rw [if_pos (by omega)]
      refine r_L_same_389 (fun _ => ?_) (fun y => absurd (by rw [er]) y)
      rw [er, nI_s, nI_pr (by omega), show Dd (c + 1) - u - 1 = Dd (c + 1) - (u + 1) by omega]
      exact ih (u + 1) h' (by omega) D' (f.BE E (by omega)) (f.DA A (by omega))
/-- the constraints of a transaction, then its ring -/
theorem t_slotH {h : sn_H} {i c1 c2 : Nat} {v5 : Int32} (D : WD L scr h σ q cc v t) (R : PR c σ q cc v t) (hi : i < 4) (ho : bitP (σ 0 3) i) (l1 : c1 + 2 ≤ 80) (l2 : c2 + 36 ≤ 1500)
    (K : ∀ h', WD L scr h' σ q cc v t → wpE 59 442 [some (.ref 1), some (.ref 103), some (.ref 104), some (.ref 105), some (.ref 106), some (.int v5), some (.int (nI i)), none, none, none, none, none, none, none, none, none] [] h' (c1 + 1 + 1, c2 + 18 + 18) Q) : ∀ m j, j + m = 3 → wpE 59 229 [some (.ref 1), some (.ref 103), some (.ref 104), some (.ref 105), some (.ref 106), some (.int v5), some (.int (nI i)), none, some (.int (nI j)), none, none, none, none, none, none, none] [] h (c1, c2) Q := by
  have c15 := R.c15
  have A := D.2.2.LQ R
  have hN' := D.2.2.1
  have S : SL c (c + 1) (nI i) t (fun w => t (3 * i + w)) := Or.inr ⟨rfl, i, hi, rfl, fun _ _ => rfl⟩
  have hsp := R.hso hi ho (tt := fun w => t (3 * i + w)) (fun _ _ => rfl)
  obtain ⟨eR, _⟩ := R.go hi ho (tt := fun w => t (3 * i + w)) (fun _ _ => rfl)
  intro m
  induction m with
  | zero =>
    intro j hj
    have e : j = 3 := hj
    subst e
    refine r_L_same_229 D.kq D.k1 (fun _ => inb (by omega)) (fun _ => by omega) (fun _ => by omega) (fun _ => ?_) (fun y => absurd (Int32.le_refl _) y) (fun y => absurd (Int32.le_refl _) y) (fun y => absurd (Int32.le_refl _) y)
    rw [D.gq (by omega), R.q0, nI_s]
    refine s_L_behind A S hsp (by omega) (by omega) (by omega) (fun h1 w1 wn1 B => ?_)
    rw [eR] at B
    have D1 := D.nw w1
    have wl := w1.1
    refine r_L_same_284 (by omega) (by omega) (s_L_steps B ⟨by omega, by omega⟩ wn1 (fun h2 Dd w2 wn2 Ad st => ?_))
    have D2 := D1.nw w2
    have B2 := w2.BE B wn1
    have ed' : hG h2 (hN h1) (nI (c + 1)).toNatClampNeg = nI (Dd (c + 1)) := by rw [cl (by omega), Ad.2 _ (by omega)]
    refine r_L_same_293 Ad.1 (inb (by omega)) ?_
    rw [ed']
    exact t_ring R hi ho (by omega) (by omega) st (by omega) (by omega) K (rgQ (gRo σ c i) (c + 1)) 0 h2 (Nat.zero_add _) D2 B2 Ad
  | succ m ih =>
    intro j hj
    have nl : ¬ nI 3 ≤ nI j := nI_ge (by omega) (by omega)
    refine r_L_same_229 D.kq D.k1 (fun y => absurd y nl) (fun y => absurd y nl) (fun y => absurd y nl) (fun y => absurd y nl) (fun _ => by omega) (fun _ => by omega) (fun _ => x_holdsFor D hi ho (by omega) ?_)
    refine r_L_same_243 (by omega) (by omega) (s_L_holdsFor R D.2.2 hi ho (by omega) ?_)
    refine r_L_same_255 (fun _ => ?_) (fun y => absurd rfl y)
    rw [nI_s]
    exact ih (j + 1) (by omega)
/-- the lowest policy, then what of says -/
theorem t_slotP {i c1 c2 : Nat} {v5 : Int32} (R : PR c σ q cc v t) (hi : i < 4) (ho : bitP (σ 0 3) i) (l1 : c1 + 14 ≤ 80) (l2 : c2 + 252 ≤ 1500)
    (K : ∀ h', WD L scr h' σ q cc v t → wpE 59 442 [some (.ref 1), some (.ref 103), some (.ref 104), some (.ref 105), some (.ref 106), some (.int v5), some (.int (nI i)), none, none, none, none, none, none, none, none, none] [] h' (c1 + 14, c2 + 252) Q) : ∀ p h, WD L scr h σ q cc v t → p ≤ 3 →
    wpE 59 102 [some (.ref 1), some (.ref 103), some (.ref 104), some (.ref 105), some (.ref 106), some (.int v5), some (.int (nI i)), some (.int (rfV σ c i (3 - p) p)), some (.int (nI p + -(nI 1))), none, none, none, none, none, none, none] [] h (c1 + 3 * (3 - p), c2 + 54 * (3 - p)) Q := by
  have c15 := R.c15
  obtain ⟨p0, p1, p2, p3⟩ := R.pol
  intro p
  induction p with
  | zero =>
    intro h D _
    have ng : nI 0 + -(nI 1) < 0 := by decide
    refine r_L_same_102 (fun _ => ?_) (fun y => absurd ng y) (fun y => absurd ng y) (fun y => absurd ng y)
    show wpE 59 136 [some (.ref 1), some (.ref 103), some (.ref 104), some (.ref 105), some (.ref 106), some (.int v5), some (.int (nI i)), some (.int (rfV σ c i 3 0)), none, none, none, none, none, none, none, none] [] h (c1 + 9, c2 + 162) Q
    refine r_L_same_136 D.k1 (by omega) (by omega) (x_of D R hi ho p2 p1 (j := 0) (by omega) (fun h1 D1 f1 => ?_))
    rw [if_pos (by omega)]
    have e0 : t (3 * i + 0) = hG h1 106 (nI 3 * nI i).toNatClampNeg := by rw [pk_mul, D1.gt (by omega)]; rfl
    refine r_L_same_143 D1.kt D1.k1 (by rw [pk_mul]; exact inb (by omega)) (fun y => absurd e0 y) (fun _ => by omega) (fun _ => by omega) (fun _ => x_of D1 R hi ho p2 p1 (j := 1) (by omega) (fun h2 D2 f2 => ?_))
    rw [if_pos (by omega)]
    have e1 : t (3 * i + 1) = hG h2 106 (nI 3 * nI i + nI 1).toNatClampNeg := by rw [pk_mul, nI_add, D2.gt (by omega)]
    refine r_L_same_160 D2.kt D2.k1 (by rw [pk_mul, nI_add]; exact inb (by omega)) (fun y => absurd e1 y) (fun _ => by omega) (fun _ => by omega) (fun _ => x_of D2 R hi ho p2 p1 (j := 2) (by omega) (fun h3 D3 f3 => ?_))
    rw [if_pos (by omega)]
    have e2 : t (3 * i + 2) = hG h3 106 (nI 3 * nI i + nI 2).toNatClampNeg := by rw [pk_mul, nI_add, D3.gt (by omega)]
    refine r_L_same_179 D3.kt D3.k1 (by rw [pk_mul, nI_add]; exact inb (by omega)) (fun y => absurd e2 y) (fun _ => by omega) (fun _ => by omega) (fun _ => x_of D3 R hi ho p2 p1 (j := 3) (by omega) (fun h4 D4 f4 => ?_))
    rw [if_neg (by omega)]
    refine r_L_same_198 D4.kq (inb (by omega)) (by omega) (by omega) ?_
    rw [D4.gq (by omega), p3]
    refine s_L_reason R D4.2.2 hi ho p1 (fun h5 w5 => ?_)
    have D5 := D4.nw w5
    refine r_L_same_210 D5.k1 (fun y => absurd rfl y) (fun _ => by omega) (fun _ => by omega) (fun _ => x_refusedBy D5 R hi ho (fun h6 D6 f6 => ?_))
    refine r_L_same_219 (fun _ => r_L_same_226 ?_) (fun y => absurd rfl y)
    exact t_slotH D6 R hi ho (by omega) (by omega) K 3 0 rfl
  | succ p ih =>
    intro h D hp
    rw [nI_pr (by omega), Nat.add_sub_cancel]
    have ng : ¬ nI p < 0 := nI_pos (by omega)
    refine r_L_same_102 (fun y => absurd y ng) (fun _ => by omega) (fun _ => by omega) (fun _ => ?_)
    refine s_L_reason R D.2.2 hi ho (by omega) (fun h1 w1 => ?_)
    have D1 := D.nw w1
    have h9 := ih h1 D1 (by omega)
    have w4 := wyC_lt σ c i p
    rw [show 3 - p = 3 - (p + 1) + 1 by omega] at h9
    unfold rfV at h9
    have ec : c1 + 3 * (3 - (p + 1) + 1) = c1 + 3 * (3 - (p + 1)) + 3 ∧ c2 + 54 * (3 - (p + 1) + 1) = c2 + 54 * (3 - (p + 1)) + 54 := by omega
    rw [ec.1, ec.2] at h9
    refine r_L_same_118 (fun y => ?_) (fun y => ?_)
    · rw [nI_le0 (by omega)] at y
      rw [if_pos y] at h9
      exact h9
    · rw [nI_le0 (by omega)] at y
      rw [if_neg y] at h9
      exact h9
theorem t_slots (R : PR c σ q cc v t) (H : ∀ h', WD L scr h' σ q cc v t → Q (some (.int (nI 1))) h') : ∀ m i h c1 c2, i + m = 4 → WD L scr h σ q cc v t → c1 ≤ 14 * i → c2 ≤ 252 * i →
    wpE 59 60 [some (.ref 1), some (.ref 103), some (.ref 104), some (.ref 105), some (.ref 106), some (.int (nI (opN σ i))), some (.int (nI i)), none, none, none, none, none, none, none, none, none] [] h (c1, c2) Q := by
  have c15 := R.c15
  intro m
  induction m with
  | zero =>
    intro i h c1 c2 hi D l1 l2
    have e : i = 4 := hi
    subst e
    have A := D.2.2.LQ R
    have hN' := D.2.2.1
    have SL0 : SL c c (-(nI 1)) t (fun _ => 0) := Or.inl ⟨rfl, rfl⟩
    refine r_L_same_60 D.kt D.k1 (fun _ => by omega) (fun _ => by omega) (fun _ => ?_) (fun y => absurd (Int32.le_refl _) y) (fun y => absurd (Int32.le_refl _) y) (fun y => absurd (Int32.le_refl _) y) (fun y => absurd (Int32.le_refl _) y) (fun y => absurd (Int32.le_refl _) y)
    refine s_L_behind A SL0 (R.hsk (fun _ => 0)) (by omega) (by omega) (by omega) (fun h1 w1 wn1 B => ?_)
    rw [R.gk (fun _ => 0)] at B
    refine r_L_same_464 ?_
    exact t_commits (by omega) R H c 0 h1 (c1 + 1) (c2 + 18) (Nat.zero_add c) (D.nw w1) B wn1 (by omega) (by omega)
  | succ m ih =>
    intro i h c1 c2 hi D l1 l2
    have nl : ¬ nI 4 ≤ nI i := nI_ge (by omega) (by omega)
    have ge : hG h 106 (nI 3 * nI i).toNatClampNeg = t (3 * i) := by rw [pk_mul, D.gt (by omega)]
    refine r_L_same_60 D.kt D.k1 (fun y => absurd y nl) (fun y => absurd y nl) (fun y => absurd y nl) (fun _ => by rw [pk_mul]; exact inb (by omega)) (fun _ y => ?_) (fun _ _ => by omega) (fun _ _ => by omega) (fun _ y => ?_)
    · rw [ge, R.is (by omega)] at y
      have es : opN σ (i + 1) = opN σ i + 1 := by rw [opN_s, decide_eq_true y]; rfl
      have fin : ∀ h', WD L scr h' σ q cc v t → wpE 59 442 [some (.ref 1), some (.ref 103), some (.ref 104), some (.ref 105), some (.ref 106), some (.int (nI (opN σ i) + nI 1)), some (.int (nI i)), none, none, none, none, none, none, none, none, none] [] h' (c1 + 14, c2 + 252) Q := fun h' D' => by
        refine r_L_same_442 ?_
        rw [nI_s, nI_s, ← es]
        exact ih (i + 1) h' _ _ (by omega) D' (by omega) (by omega)
      have h9 := t_slotP (c1 := c1) (c2 := c2) R (by omega) y (by omega) (by omega) fin 3 h D (Nat.le_refl 3)
      rw [nI_pr (by omega)] at h9
      exact h9
    · rw [ge, R.is (by omega)] at y
      have es : opN σ (i + 1) = opN σ i := by rw [opN_s, decide_eq_false y]; rfl
      refine x_ofNo D (by omega) y ?_
      refine r_L_same_83 (fun _ => r_L_same_442 ?_) (fun z => absurd rfl z)
      rw [nI_s, ← es]
      exact ih (i + 1) h c1 c2 (by omega) D (by omega) (by omega)
/-- class and law are the same, after each act -/
theorem s_L_same {h : sn_H} (D : WD L scr h σ q cc v t) (R : PR c σ q cc v t) (H : ∀ h', WD L scr h' σ q cc v t → Q (some (.int (nI 1))) h') : wpE 59 0 [some (.ref 1), some (.ref 103), some (.ref 104), some (.ref 105), some (.ref 106), none, none, none, none, none, none, none, none, none, none, none] [] h (0, 0) Q := by
  have c15 := R.c15
  refine r_L_same_0 ?_
  suffices ∀ m k, k + m = 4 → wpE 59 6 [some (.ref 1), some (.ref 103), some (.ref 104), some (.ref 105), some (.ref 106), some (.int (nI 0)), some (.int (nI k)), none, none, none, none, none, none, none, none, none] [] h (0, 0) Q from this 4 0 rfl
  intro m
  induction m with
  | zero =>
    intro k hk
    have e : k = 4 := hk
    subst e
    refine r_L_same_6 D.k1 (fun _ => ?_) (fun y => absurd (Int32.le_refl _) y) (fun y => absurd (Int32.le_refl _) y) (fun y => absurd (Int32.le_refl _) y)
    exact t_slots R H 4 0 h 0 0 rfl D (Nat.le_refl _) (Nat.le_refl _)
  | succ m ih =>
    intro k hk
    have nl : ¬ nI 4 ≤ nI k := nI_ge (by omega) (by omega)
    have q0 : hG h 103 (nI 0).toNatClampNeg = nI c := by rw [D.gq (by omega)]; exact R.q0
    refine r_L_same_6 D.k1 (fun y => absurd y nl) (fun _ => by omega) (fun _ => by omega) (fun _ => x_version D R (by omega) ?_)
    refine r_L_same_18 D.kq (inb (by omega)) (by omega) (by omega) ?_
    rw [q0]
    refine s_L_version D.2.2.2.2.1 c15 ?_
    refine r_L_same_27 D.k1 (fun y => absurd rfl y) (fun _ => by omega) (fun _ => by omega) (fun _ => x_value D R (by omega) ?_)
    refine r_L_same_36 D.kq (inb (by omega)) (by omega) (by omega) ?_
    rw [q0]
    refine s_L_value D.2.2.2.2.1 D.2.2.2.2.2.1 (by omega) c15 ?_
    refine r_L_same_46 (fun _ => ?_) (fun y => absurd rfl y)
    rw [nI_s]
    exact ih (k + 1) (by omega)
end
