/-! ===== the law's tail: all open transactions committed on copies ===== -/
theorem PR.cgA {c : Nat} {σ : sn_V} {q q' cc cc' v v' t t' : Nat → Int32} (R : PR c σ q cc v t) (eq : ∀ x, x < 12 → q' x = q x) (ec : ∀ x, x < 48 → cc' x = cc x) (ev : ∀ x, x < 64 → v' x = v x) (et : ∀ x, x < 28 → t' x = t x) : PR c σ q' cc' v' t' := by
  have c15 := R.c15
  obtain ⟨r1, ⟨r2, r2'⟩, ⟨p, p1, p2, p3⟩, ⟨r4, r4'⟩, r5, r6, r7, r8, r9⟩ := R
  have k1 : ∀ m, 1 ≤ m → m ≤ c → cc' (32 + m) = cc (32 + m) := fun m _ _ => ec _ (by omega)
  have k2 : ∀ m k, 1 ≤ m → m ≤ c → k < 4 → v' (4 * m + k) = v (4 * m + k) := fun m k _ _ _ => ev _ (by omega)
  refine ⟨r1, ⟨r2, (eq 0 (by omega)).trans r2'⟩, ⟨p, p1, p2, (eq 1 (by omega)).trans p3⟩, ⟨fun r hr => (eq _ (by omega)).trans (r4 r hr), (eq 5 (by omega)).trans r4'⟩, fun j hj => ?_, fun k hk => ?_, r7, fun i hi => ?_, fun n a b => ?_⟩
  · rw [eq _ (by omega), eq _ (by omega)]; exact r5 j hj
  · rw [verN_cg c k1, valN_cg (cc := cc) (v := v) k1 (fun m a b => k2 m k a b hk)]; exact r6 k hk
  · exact (r8 i hi).cg (Nat.le_refl c) Iff.rfl rfl rfl rfl (fun _ _ => rfl) (fun _ _ => rfl) (fun w hw => et _ (by omega)) (fun k hk => et _ (by omega)) k1 k2
  · exact (r9 n a b).cg rfl rfl rfl (fun _ _ => rfl) (ec _ (by omega)) (ec _ (by omega)) (fun m x y => ec _ (by omega)) a
/-- a copy that has come to k -/
def cz (f : Nat → Int32) (n k j : Nat) : Int32 := if j < k ∧ j < n then f j else 0
theorem cz_s {f : Nat → Int32} {n k : Nat} (h : k < n) : ua (cz f n k) k (f k) = cz f n (k + 1) := by
  funext j
  unfold ua cz
  by_cases e : j = k
  · rw [if_pos e, if_pos ⟨by omega, by omega⟩, e]
  · rw [if_neg e]
    by_cases z : j < k ∧ j < n
    · rw [if_pos z, if_pos ⟨by omega, z.2⟩]
    · rw [if_neg z, if_neg (fun y => z ⟨by omega, y.2⟩)]
theorem cz_n {f : Nat → Int32} {n k : Nat} (h : n ≤ k) : cz f n k = cz f n (k + 1) := by
  funext j
  unfold cz
  by_cases z : j < k ∧ j < n
  · rw [if_pos z, if_pos ⟨by omega, z.2⟩]
  · rw [if_neg z, if_neg (fun y => z ⟨by omega, y.2⟩)]
theorem cz_0 {f : Nat → Int32} {n : Nat} : cz f n 0 = fun _ => 0 := by
  funext j
  unfold cz
  rw [if_neg (fun y => by omega)]
theorem cz_e {f : Nat → Int32} {n k j : Nat} (h1 : n ≤ k) (h2 : j < n) : cz f n k j = f j := if_pos ⟨by omega, h2⟩
theorem Ar1.al {h : sn_H} {n : Nat} : Ar1 (allocH h (1, 0, n)) (hN h) n (fun _ => 0) := ⟨al_K h _, fun k => al_G h _ k⟩
section
variable {L : Nat} {scr : Nat → Int32} {σ : sn_V} {q cc v t : Nat → Int32} {c : Nat} {Q : Option Value → sn_H → Prop}
/-- sums of the constraints, after the commits -/
theorem t_sums {h : sn_H} {z c' c1 c2 : Nat} {σ' : sn_V} {a b w u : Nat → Int32} {v6 : Int32} (R' : PR c' σ' a b w u) (W : W4 h z a b w u) (l1 : c1 ≤ 600000) (l2 : c2 ≤ 7302250)
    (K : wpE 80 985 [some (.ref 0), some (.ref 1), some (.ref 103), some (.ref 104), some (.ref 105), some (.ref 106), some (.int v6), none, none, none, none, none, none, none, none, none, none, none] [] h (c1, c2) Q) :
    wpE 80 939 [some (.ref 0), some (.ref 1), some (.ref 103), some (.ref 104), some (.ref 105), some (.ref 106), some (.int v6), none, none, none, none, none, none, some (.ref z), some (.ref (z + 1)), some (.ref (z + 2)), some (.ref (z + 3)), none] [.int (nI (smN (fun q => b01 (hdB σ' q)) 3 0))] h (c1, c2) Q := by
  refine r_L_law_939 l1 l2 (s_L_holds R' W (by omega) ?_)
  refine r_L_law_952 l1 l2 (s_L_holds R' W (by omega) ?_)
  refine r_L_law_965 l1 l2 (s_L_holds R' W (by omega) ?_)
  have e : nI (smN (fun q => b01 (hdB σ' q)) 3 0) = (bi (hdB σ' 0) + bi (hdB σ' 1)) + bi (hdB σ' 2) := by
    show nI (b01 (hdB σ' 0) + (b01 (hdB σ' 1) + (b01 (hdB σ' 2) + 0))) = _
    cases hdB σ' 0 <;> cases hdB σ' 1 <;> cases hdB σ' 2 <;> decide
  exact r_L_law_979 (fun _ => K) (fun y => absurd e y)
theorem t_commitsA {z p c1 c2 : Nat} {v6 : Int32} (R : PR c σ q cc v t) (hc : c ≤ 11) (h0 : σ 0 0 = nI p) (hp : p < 3) (hz : 107 ≤ z) (l1 : c1 + 12 ≤ 600000) (l2 : c2 + 216 ≤ 7302250)
    (K : ∀ h' c1' c2', WD L scr h' σ q cc v t → c1' ≤ c1 + 12 → c2' ≤ c2 + 216 → wpE 80 985 [some (.ref 0), some (.ref 1), some (.ref 103), some (.ref 104), some (.ref 105), some (.ref 106), some (.int v6), none, none, none, none, none, none, none, none, none, none, none] [] h' (c1', c2') Q) :
    ∀ m k h c1' c2' a b w u, k + m = 4 → WD L scr h σ q cc v t → W4 h z a b w u → PR (faS σ c p k).1 (faS σ c p k).2 a b w u → c1' ≤ c1 + 3 * k → c2' ≤ c2 + 54 * k →
    wpE 80 899 [some (.ref 0), some (.ref 1), some (.ref 103), some (.ref 104), some (.ref 105), some (.ref 106), some (.int v6), none, none, none, none, none, none, some (.ref z), some (.ref (z + 1)), some (.ref (z + 2)), some (.ref (z + 3)), some (.int (nI k))] [] h (c1', c2') Q := by
  intro m
  induction m with
  | zero =>
    intro k h c1' c2' a b w u hk D W R' k1 k2
    have e : k = 4 := hk
    subst e
    refine r_L_law_899 D.k1 W.2.2.2.2.1 (fun _ => by omega) (fun _ => by omega) (fun _ => ?_) (fun y => absurd (Int32.le_refl _) y) (fun y => absurd (Int32.le_refl _) y) (fun y => absurd (Int32.le_refl _) y) (fun y => absurd (Int32.le_refl _) y) (fun y => absurd (Int32.le_refl _) y)
    refine x_ifAll D ⟨by omega, R.x⟩ h0 hp (fun h' D' f => ?_)
    have e5 : faS σ c p 5 = faS σ c p 4 := by rw [faS_s, if_neg (R'.hi (by omega) (by omega))]
    have e6 : faS σ c p 6 = faS σ c p 4 := by rw [faS_s, e5, if_neg (R'.hi (by omega) (by omega))]
    have e7 : faS σ c p 7 = faS σ c p 4 := by rw [faS_s, e6, if_neg (R'.hi (by omega) (by omega))]
    have e8 : faS σ c p 8 = faS σ c p 4 := by rw [faS_s, e7, if_neg (R'.hi (by omega) (by omega))]
    rw [e8]
    exact t_sums R' (f.W4 W (by omega)) (by omega) (by omega) (K h' _ _ D' (by omega) (by omega))
  | succ m ih =>
    intro k h c1' c2' a b w u hk D W R' k1 k2
    obtain ⟨s, st, C⟩ := D.2.1
    obtain ⟨i1, i2, i3, i4⟩ := fa_inv C.Z h0 R.x k
    have nl : ¬ nI 4 ≤ nI k := nI_ge (by omega) (by omega)
    have ge : hG h (z + 3) (nI 3 * nI k).toNatClampNeg = u (3 * k) := by rw [pk_mul, cl (by omega), W.2.2.2.2.2]
    have is := R'.is (show k < 4 by omega)
    refine r_L_law_899 D.k1 W.2.2.2.2.1 (fun y => absurd y nl) (fun y => absurd y nl) (fun y => absurd y nl) (fun _ => by rw [pk_mul]; exact inb (by omega)) (fun _ y => ?_) (fun _ _ => by omega) (fun _ _ => by omega) (fun _ y => ?_)
    · rw [ge] at y
      have no : ¬ bitP ((faS σ c p k).2 0 3) k := fun z => by
        have := is.mpr z
        exact absurd y (Int32.not_lt.mpr this)
      rw [nI_s]
      refine ih (k + 1) h c1' c2' a b w u (by omega) D W ?_ (by omega) (by omega)
      rw [faS_s, if_neg no]
      exact R'
    · rw [ge] at y
      have yes : bitP ((faS σ c p k).2 0 3) k := is.mp (Int32.not_lt.mp y)
      refine s_L_commit R' W (by omega) (by omega) yes i2 hp (fun h' a' b' w' u' ch W' R2 => ?_)
      refine r_L_law_928 ?_
      rw [nI_s]
      refine ih (k + 1) h' _ _ a' b' w' u' (by omega) (D.ch ch hz) W' ?_ (by omega) (by omega)
      rw [faS_s, if_pos yes]
      exact R2
theorem t_copy {z c1 c2 : Nat} {v6 : Int32} (hz : 107 ≤ z) (K : ∀ h', WD L scr h' σ q cc v t → W4 h' z (cz q 12 64) (cz cc 48 64) (cz v 64 64) (cz t 28 64) → wpE 80 899 [some (.ref 0), some (.ref 1), some (.ref 103), some (.ref 104), some (.ref 105), some (.ref 106), some (.int v6), none, none, none, none, none, none, some (.ref z), some (.ref (z + 1)), some (.ref (z + 2)), some (.ref (z + 3)), some (.int (nI 0))] [] h' (c1, c2) Q) :
    ∀ m k h, k + m = 64 → WD L scr h σ q cc v t → W4 h z (cz q 12 k) (cz cc 48 k) (cz v 64 k) (cz t 28 k) → wpE 80 824 [some (.ref 0), some (.ref 1), some (.ref 103), some (.ref 104), some (.ref 105), some (.ref 106), some (.int v6), none, none, none, none, none, none, some (.ref z), some (.ref (z + 1)), some (.ref (z + 2)), some (.ref (z + 3)), some (.int (nI k))] [] h (c1, c2) Q := by
  intro m
  induction m with
  | zero =>
    intro k h hk D W
    have e : k = 64 := hk
    subst e
    exact r_L_law_824 D.kv W.2.2.2.1.1 D.kc W.2.2.1.1 (fun _ => K h D W) (fun y => absurd (Int32.le_refl _) y) (fun y => absurd (Int32.le_refl _) y) (fun y => absurd (Int32.le_refl _) y) (fun y => absurd (Int32.le_refl _) y) (fun y => absurd (Int32.le_refl _) y) (fun y => absurd (Int32.le_refl _) y)
  | succ m ih =>
    intro k h hk D W
    have nl : ¬ nI 64 ≤ nI k := nI_ge (by omega) (by omega)
    have ck : (nI k).toNatClampNeg = k := cl (by omega)
    have ps : ∀ {h' p x}, WD L scr h' σ q cc v t → (z ≤ p ∧ p ≤ z + 3) → WD L scr (setG h' p k x) σ q cc v t := fun {h' p x} D' hp => D'.ch (((Nw.rf h').ch z).sG hp) hz
    have gv : hG h 105 (nI k).toNatClampNeg = v k := by rw [ck]; exact D.2.2.2.2.2.1.2 k
    -- the last two
    have g874 : ∀ h', WD L scr h' σ q cc v t → W4 h' z (cz q 12 k) (cz cc 48 (k + 1)) (cz v 64 (k + 1)) (cz t 28 (k + 1)) → wpE 80 874 [some (.ref 0), some (.ref 1), some (.ref 103), some (.ref 104), some (.ref 105), some (.ref 106), some (.int v6), none, none, none, none, none, none, some (.ref z), some (.ref (z + 1)), some (.ref (z + 2)), some (.ref (z + 3)), some (.int (nI k))] [] h' (c1, c2) Q := by
      intro h' D' W'
      have gq : hG h' 103 (nI k).toNatClampNeg = q k := D'.gq (by omega)
      refine r_L_law_874 D'.kq W'.2.1.1 (fun y => ?_) (fun y => ?_) (fun y => ?_) (fun y => ?_)
      · rw [nI_leI (by omega) (by omega)] at y
        refine r_L_law_890 ?_
        rw [nI_s]
        rw [cz_n y] at W'
        exact ih (k + 1) h' (by omega) D' W'
      · rw [nI_leI (by omega) (by omega)] at y; exact inb (by omega)
      · rw [nI_leI (by omega) (by omega)] at y; exact inb (by omega)
      · rw [nI_leI (by omega) (by omega)] at y
        refine r_L_law_890 ?_
        rw [nI_s, gq, ck]
        have W2 := W'.sq (k := k) (x := q k)
        rw [cz_s (by omega)] at W2
        exact ih (k + 1) _ (by omega) (ps D' (by omega)) W2
    have g857 : ∀ h', WD L scr h' σ q cc v t → W4 h' z (cz q 12 k) (cz cc 48 (k + 1)) (cz v 64 (k + 1)) (cz t 28 k) → wpE 80 857 [some (.ref 0), some (.ref 1), some (.ref 103), some (.ref 104), some (.ref 105), some (.ref 106), some (.int v6), none, none, none, none, none, none, some (.ref z), some (.ref (z + 1)), some (.ref (z + 2)), some (.ref (z + 3)), some (.int (nI k))] [] h' (c1, c2) Q := by
      intro h' D' W'
      have gt : hG h' 106 (nI k).toNatClampNeg = t k := D'.gt (by omega)
      refine r_L_law_857 D'.kt W'.2.2.2.2.1 (fun y => ?_) (fun y => ?_) (fun y => ?_) (fun y => ?_)
      · rw [nI_leI (by omega) (by omega)] at y
        rw [cz_n (f := t) y] at W'
        exact g874 h' D' W'
      · rw [nI_leI (by omega) (by omega)] at y; exact inb (by omega)
      · rw [nI_leI (by omega) (by omega)] at y; exact inb (by omega)
      · rw [nI_leI (by omega) (by omega)] at y
        rw [gt, ck]
        have W2 := W'.st (k := k) (x := t k)
        rw [cz_s (by omega)] at W2
        exact g874 _ (ps D' (by omega)) W2
    refine r_L_law_824 D.kv W.2.2.2.1.1 D.kc W.2.2.1.1 (fun y => absurd y nl) (fun _ => inb (by omega)) (fun _ => inb (by omega)) (fun _ y => ?_) (fun _ y => ?_) (fun _ y => ?_) (fun _ y => ?_)
    · rw [nI_leI (by omega) (by omega)] at y
      rw [gv, ck]
      have W2 := W.sv (k := k) (x := v k)
      rw [cz_s (by omega), cz_n (f := cc) y] at W2
      exact g857 _ (ps D (by omega)) W2
    · rw [nI_leI (by omega) (by omega)] at y; exact inb (by omega)
    · rw [nI_leI (by omega) (by omega)] at y; exact inb (by omega)
    · rw [nI_leI (by omega) (by omega)] at y
      rw [gv, ck]
      have D2 : WD L scr (setG h (z + 2) k (v k)) σ q cc v t := ps D (by omega)
      have gc : hG (setG h (z + 2) k (v k)) 104 k = cc k := D2.2.2.2.2.1.2 k
      rw [gc]
      have W2 := (W.sv (k := k) (x := v k)).sc (k := k) (x := cc k)
      rw [cz_s (by omega), cz_s (by omega)] at W2
      exact g857 _ (ps D2 (by omega)) W2
theorem t_tail {h : sn_H} {c1 c2 : Nat} {v6 : Int32} (D : WD L scr h σ q cc v t) (R : PR c σ q cc v t) (hc : c ≤ 11) (l1 : c1 + 16 ≤ 600000) (l2 : c2 + 368 ≤ 7302250)
    (K : ∀ h' c1' c2', WD L scr h' σ q cc v t → c1' ≤ c1 + 16 → c2' ≤ c2 + 368 → wpE 80 985 [some (.ref 0), some (.ref 1), some (.ref 103), some (.ref 104), some (.ref 105), some (.ref 106), some (.int v6), none, none, none, none, none, none, none, none, none, none, none] [] h' (c1', c2') Q) : wpE 80 797 [some (.ref 0), some (.ref 1), some (.ref 103), some (.ref 104), some (.ref 105), some (.ref 106), some (.int v6), none, none, none, none, none, none, none, none, none, none, none] [] h (c1, c2) Q := by
  obtain ⟨p, p1, p2, p3⟩ := R.pol
  have hz := D.2.2.1
  have n1 : Nw h (allocH h (1, 0, 12)) := Nw.al h _
  have n2 := Nw.al (allocH h (1, 0, 12)) (1, 0, 48)
  have n3 := Nw.al (allocH (allocH h (1, 0, 12)) (1, 0, 48)) (1, 0, 64)
  have n4 := Nw.al (allocH (allocH (allocH h (1, 0, 12)) (1, 0, 48)) (1, 0, 64)) (1, 0, 28)
  have N1 : hN (allocH h (1, 0, 12)) = hN h + 1 := rfl
  have N2 : hN (allocH (allocH h (1, 0, 12)) (1, 0, 48)) = hN h + 2 := rfl
  have N3 : hN (allocH (allocH (allocH h (1, 0, 12)) (1, 0, 48)) (1, 0, 64)) = hN h + 3 := rfl
  have N4 : hN (allocH (allocH (allocH (allocH h (1, 0, 12)) (1, 0, 48)) (1, 0, 64)) (1, 0, 28)) = hN h + 4 := rfl
  have A1 : Ar1 (allocH h (1, 0, 12)) (hN h) 12 (fun _ => 0) := Ar1.al
  have A2 : Ar1 (allocH (allocH h (1, 0, 12)) (1, 0, 48)) (hN h + 1) 48 (fun _ => 0) := Ar1.al
  have A3 : Ar1 (allocH (allocH (allocH h (1, 0, 12)) (1, 0, 48)) (1, 0, 64)) (hN h + 2) 64 (fun _ => 0) := Ar1.al
  have A4 : Ar1 (allocH (allocH (allocH (allocH h (1, 0, 12)) (1, 0, 48)) (1, 0, 64)) (1, 0, 28)) (hN h + 3) 28 (fun _ => 0) := Ar1.al
  refine r_L_law_797 (by omega) (by omega) (r_L_law_801 (by omega) (by omega) (r_L_law_807 (by omega) (by omega) (r_L_law_813 (by omega) (by omega) (r_L_law_819 ?_))))
  rw [N1, N2, N3]
  have D4 := (((D.nw n1).nw n2).nw n3).nw n4
  have W : W4 (allocH (allocH (allocH (allocH h (1, 0, 12)) (1, 0, 48)) (1, 0, 64)) (1, 0, 28)) (hN h) (cz q 12 0) (cz cc 48 0) (cz v 64 0) (cz t 28 0) := by
    rw [cz_0, cz_0, cz_0, cz_0]
    exact ⟨by rw [N4]; omega, ((n2.tr n3).tr n4).A A1 (by rw [N1]; omega), (n3.tr n4).A A2 (by rw [N2]; omega), n4.A A3 (by rw [N3]; omega), A4⟩
  refine t_copy (by omega) (fun h' D' W' => ?_) 64 0 _ rfl D4 W
  have R' : PR (faS σ c p 0).1 (faS σ c p 0).2 (cz q 12 64) (cz cc 48 64) (cz v 64 64) (cz t 28 64) := R.cgA (fun x hx => cz_e (by omega) hx) (fun x hx => cz_e (by omega) hx) (fun x hx => cz_e (by omega) hx) (fun x hx => cz_e (by omega) hx)
  exact t_commitsA (c1 := c1 + 1 + 1 + 1 + 1) (c2 := c2 + 12 + 48 + 64 + 28) R hc p2 p1 (by omega) (by omega) (by omega) (fun h2 c1' c2' D2 b1 b2 => K h2 c1' c2' D2 (by omega) (by omega)) 4 0 h' _ _ _ _ _ _ rfl D' W' R' (by omega) (by omega)
/-- behind each act: the same, then the tail -/
theorem t_behind {h : sn_H} {c1 c2 : Nat} {v6 v8 : Int32} (D : WD L scr h σ q cc v t) (R : PR c σ q cc v t) (l1 : c1 + 96 ≤ 600000) (l2 : c2 + 1868 ≤ 7302250)
    (K : ∀ h' c1' c2', WD L scr h' σ q cc v t → c1' ≤ c1 + 96 → c2' ≤ c2 + 1868 → wpE 80 985 [some (.ref 0), some (.ref 1), some (.ref 103), some (.ref 104), some (.ref 105), some (.ref 106), some (.int v6), none, none, none, none, none, none, none, none, none, none, none] [] h' (c1', c2') Q) : wpE 80 759 [some (.ref 0), some (.ref 1), some (.ref 103), some (.ref 104), some (.ref 105), some (.ref 106), some (.int v6), none, some (.int v8), none, none, none, none, none, none, none, none, none] [] h (c1, c2) Q := by
  have c15 := R.c15
  refine r_L_law_759 (by omega) (by omega) (s_L_same D R (fun h1 D1 => ?_))
  refine r_L_law_769 (fun _ => ?_) (fun y => absurd y bi_t)
  have q0 : hG h1 103 (nI 0).toNatClampNeg = nI c := by rw [D1.gq (by omega)]; exact R.q0
  refine r_L_law_774 D1.kq (inb (by omega)) (fun _ => K h1 _ _ D1 (by omega) (by omega)) (fun _ => by omega) (fun _ => by omega) (fun y => ?_)
  rw [q0, nI_ltI (by omega) (by omega)] at y
  refine s_L_low (by omega) (by omega) (fun r hr => ?_)
  refine r_L_law_791 (fun _ => ?_) (fun _ => K h1 _ _ D1 (by omega) (by omega))
  exact t_tail D1 R (by omega) (by omega) (by omega) (fun h' c1' c2' D' b1 b2 => K h' c1' c2' D' (by omega) (by omega))
end
