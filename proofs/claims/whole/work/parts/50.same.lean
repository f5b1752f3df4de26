/-! ===== class and Model: the same answers of rings, pivots, orders ===== -/
theorem ring_val {c i t : Nat} {σ μ : sn_V} (R : Rel c σ (μ 1)) (hc : c < 2 ^ 30) (hi : i < 8) (ho : bitP (σ 0 3) i) :
    (if t < rgQ (gRo σ c i) (min 16 c + 1) then nI (nrJ (min 16 c) (c + 1) (nnC c (min 16 c)) (rgN (gRo σ c i) (dst (gRo σ c i) (min 16 c + 1) (min 16 c) (min 16 c)) (min 16 c + 1) (rgQ (gRo σ c i) (min 16 c + 1)) (t + 1))) else -(nI 20006)) = rgV (mR μ c i true (nI 7)) c (t + 1) := by
  have hn : min 16 c ≤ 16 := Nat.min_le_left _ _
  unfold rgV
  rcases rg_same (Rc := gRo σ c i) (Rm := mR μ c i true (nI 7)) (n := min 16 c) (Nat.min_le_left _ _) (fun _ _ hx hy => gR_own R hc hi ho hx hy) (fun _ _ h => (mR_in h).2) gR_irr with ⟨q, nx⟩ | ⟨q, q16, w, wl⟩
  · rw [if_pos nx, q, if_neg (Nat.not_lt_zero t)]
  · have nx : nxN (mR μ c i true (nI 7)) (dst (mR μ c i true (nI 7)) 17 16 16) 16 17 ≠ 17 := fun z => by
      obtain ⟨a, b⟩ := w 0 q
      have e : wkM (mR μ c i true (nI 7)) (dst (mR μ c i true (nI 7)) 17 16 16) (0 + 1) = 17 := z
      omega
    rw [if_neg nx]
    by_cases h : t < rgQ (gRo σ c i) (min 16 c + 1)
    · obtain ⟨a, b⟩ := w t h
      have nf : ¬ anyN (fun t => decide (wkM (mR μ c i true (nI 7)) (dst (mR μ c i true (nI 7)) 17 16 16) (t + 1) = 16)) (t + 1) = true := fun z => by
        obtain ⟨u, u1, u2⟩ := anyN_t.mp z
        have e := of_decide_eq_true u2
        obtain ⟨a', b'⟩ := w u (by omega)
        omega
      rw [if_pos h, if_neg nf, b]
      congr 1
      unfold nrJ mnN nnC
      rw [if_neg (by omega), if_neg (by omega)]
    · rw [if_neg h, if_pos (anyN_t.mpr ⟨rgQ (gRo σ c i) (min 16 c + 1), by omega, decide_eq_true wl⟩)]
/-- a pivot -/
def pvtB (O : Nat → Nat → Bool) (n i : Nat) : Bool := anyN (fun a => O a i) n && anyN (fun b => O i b) n
def pvK (O : Nat → Nat → Bool) (n : Nat) : Bool := (pvtB O n (n - 1) || anyN (fun j => O (n - 1) j && pvtB O n j) n) || anyN (fun i => pvtB O n i && O i (n - 1)) (n - 1)
theorem pvtB_t {O : Nat → Nat → Bool} {n i : Nat} : pvtB O n i = true ↔ pvt O n i := by
  unfold pvtB pvt
  rw [Bool.and_eq_true, anyN_t, anyN_t]
theorem pvK_t {O : Nat → Nat → Bool} {n : Nat} : pvK O n = true ↔ pivB O n := by
  unfold pvK pivB
  rw [Bool.or_eq_true, Bool.or_eq_true, anyN_t, anyN_t, pvtB_t, or_assoc]
  constructor
  · rintro (h | ⟨j, a, b⟩ | ⟨j, a, b⟩)
    · exact Or.inl h
    · rw [Bool.and_eq_true, pvtB_t] at b; exact Or.inr (Or.inl ⟨j, a, b.1, b.2⟩)
    · rw [Bool.and_eq_true, pvtB_t] at b; exact Or.inr (Or.inr ⟨j, a, b.1, b.2⟩)
  · rintro (h | ⟨j, a, b, d⟩ | ⟨j, a, b, d⟩)
    · exact Or.inl h
    · exact Or.inr (Or.inl ⟨j, a, by rw [Bool.and_eq_true, pvtB_t]; exact ⟨b, d⟩⟩)
    · exact Or.inr (Or.inr ⟨j, a, by rw [Bool.and_eq_true, pvtB_t]; exact ⟨b, d⟩⟩)
theorem pvA_t {R : Nat → Nat → Bool} : pvA R 17 = true ↔ ∃ x p y, x < 17 ∧ p < 17 ∧ y < 17 ∧ (x = 16 ∨ p = 16 ∨ y = 16) ∧ R x p = true ∧ R p y = true := by
  unfold pvA pvB pvC pv3
  constructor
  · intro h
    obtain ⟨x, hx, h⟩ := anyN_t.mp h
    obtain ⟨p, hp, h⟩ := anyN_t.mp h
    obtain ⟨y, hy, h⟩ := anyN_t.mp h
    rw [Bool.and_eq_true, Bool.and_eq_true, Bool.or_eq_true, Bool.or_eq_true, decide_eq_true_iff, decide_eq_true_iff, decide_eq_true_iff, or_assoc] at h
    exact ⟨x, p, y, hx, hp, hy, h.1, h.2.1, h.2.2⟩
  · rintro ⟨x, p, y, hx, hp, hy, h1, h2, h3⟩
    refine anyN_t.mpr ⟨x, hx, anyN_t.mpr ⟨p, hp, anyN_t.mpr ⟨y, hy, ?_⟩⟩⟩
    rw [Bool.and_eq_true, Bool.and_eq_true, Bool.or_eq_true, Bool.or_eq_true, decide_eq_true_iff, decide_eq_true_iff, decide_eq_true_iff, or_assoc]
    exact ⟨h1, h2, h3⟩
theorem pv_same {Oc Om : Nat → Nat → Bool} {n : Nat} (hn : n ≤ 16) (h1 : ∀ i j, i ≤ n → j ≤ n → Om (rho n i) (rho n j) = Oc i j) (h2 : ∀ x y, Om x y = true → (∃ j, j ≤ n ∧ x = rho n j) ∧ ∃ j, j ≤ n ∧ y = rho n j) (h3 : ∀ i, Oc i i = false) :
    pvA Om 17 = pvK Oc (n + 1) := by
  have l : n + 1 - 1 = n := by omega
  rw [Bool.eq_iff_iff, pvA_t, pvK_t]
  unfold pivB pvt
  rw [l]
  have r16 : ∀ j, j ≤ n → rho n j = 16 → j = n := fun j hj e => by
    rw [← rho_n (n := n)] at e
    exact (rho_inj hn hj (Nat.le_refl _)).mp e
  constructor
  · rintro ⟨x, p, y, hx, hp, hy, h, r1, r2⟩
    obtain ⟨⟨x', x1, x2⟩, p', p1, p2⟩ := h2 _ _ r1
    obtain ⟨_, y', y1, y2⟩ := h2 _ _ r2
    rw [x2, p2, h1 x' p' x1 p1] at r1
    rw [p2, y2, h1 p' y' p1 y1] at r2
    rcases h with h | h | h
    · rw [x2] at h
      have e := r16 x' x1 h
      rw [e] at r1
      exact Or.inr (Or.inl ⟨p', by omega, r1, ⟨n, by omega, r1⟩, y', by omega, r2⟩)
    · rw [p2] at h
      have e := r16 p' p1 h
      rw [e] at r1 r2
      exact Or.inl ⟨⟨x', by omega, r1⟩, y', by omega, r2⟩
    · rw [y2] at h
      have e := r16 y' y1 h
      rw [e] at r2
      by_cases q : p' = n
      · rw [q, h3] at r2; exact absurd r2 (by decide)
      · exact Or.inr (Or.inr ⟨p', by omega, ⟨⟨x', by omega, r1⟩, n, by omega, r2⟩, r2⟩)
  · rintro (⟨⟨x, x1, r1⟩, y, y1, r2⟩ | ⟨p, p1, r1, _, y, y1, r2⟩ | ⟨p, p1, ⟨⟨x, x1, r1⟩, _⟩, r2⟩)
    · refine ⟨rho n x, rho n n, rho n y, rho_le hn (by omega), rho_le hn (by omega), rho_le hn (by omega), Or.inr (Or.inl rho_n), ?_, ?_⟩
      · rw [h1 x n (by omega) (by omega)]; exact r1
      · rw [h1 n y (by omega) (by omega)]; exact r2
    · refine ⟨rho n n, rho n p, rho n y, rho_le hn (by omega), rho_le hn (by omega), rho_le hn (by omega), Or.inl rho_n, ?_, ?_⟩
      · rw [h1 n p (by omega) (by omega)]; exact r1
      · rw [h1 p y (by omega) (by omega)]; exact r2
    · refine ⟨rho n x, rho n p, rho n n, rho_le hn (by omega), rho_le hn (by omega), rho_le hn (by omega), Or.inr (Or.inr rho_n), ?_, ?_⟩
      · rw [h1 x p (by omega) (by omega)]; exact r1
      · rw [h1 p n (by omega) (by omega)]; exact r2
/-- the reason, of the class -/
def ovC (σ : sn_V) (i : Nat) : Bool := anyN (fun k => decide (bitP (σ 8 i) k) && decide (σ 6 i < σ 5 k)) 12
theorem ovC_t {σ : sn_V} {i : Nat} : ovC σ i = true ↔ oNew σ i := by
  unfold ovC oNew
  rw [anyN_t]
  constructor
  · rintro ⟨k, a, b⟩
    rw [Bool.and_eq_true, decide_eq_true_iff, decide_eq_true_iff] at b
    exact ⟨k, a, b.1, b.2⟩
  · rintro ⟨k, a, b, d⟩
    exact ⟨k, a, by rw [Bool.and_eq_true, decide_eq_true_iff, decide_eq_true_iff]; exact ⟨b, d⟩⟩
def wyC (σ : sn_V) (c i p : Nat) : Nat := if ovC σ i = true then 1 else if p < 1 then 0 else if 0 < rgQ (gRo σ c i) (min 16 c + 1) then 2 else if p < 2 then 0 else if pvK (gOo σ c i) (min 16 c + 1) = true then 3 else 0
theorem ov_same {c i : Nat} {σ μ : sn_V} (R : Rel c σ (μ 1)) (hi : i < 8) (ho : bitP (σ 0 3) i) : ovM μ i 12 = ovC σ i := by
  obtain ⟨r0, _, r2, _⟩ := ((R.slot hi).2 ho).1
  unfold ovM ovC
  refine anyN_cg fun k hk => ?_
  have e := (R.2.2.2.2.2.1 k hk).2
  rw [r0, r2, e]
  congr 1
  rw [decide_eq_decide, Int32.not_le]
theorem wy_same {c i p : Nat} {σ μ : sn_V} (R : Rel c σ (μ 1)) (hc : c < 2 ^ 30) (hi : i < 8) (ho : bitP (σ 0 3) i) (hp : p < 3) : wyM μ c i p = wyC σ c i p := by
  have hn : min 16 c ≤ 16 := Nat.min_le_left _ _
  unfold wyM wyC
  rw [ov_same R hi ho]
  have e1 : rgM μ c i = true ↔ 0 < rgQ (gRo σ c i) (min 16 c + 1) := by
    unfold rgM
    rw [decide_eq_true_iff]
    rcases rg_same (Rc := gRo σ c i) (Rm := mR μ c i true (nI 7)) (n := min 16 c) (Nat.min_le_left _ _) (fun _ _ hx hy => gR_own R hc hi ho hx hy) (fun _ _ h => (mR_in h).2) gR_irr with ⟨q, nx⟩ | ⟨q, q16, w, wl⟩
    · rw [q]; exact ⟨fun z => absurd nx z, fun z => absurd z (Nat.lt_irrefl 0)⟩
    · refine ⟨fun _ => q, fun _ z => ?_⟩
      obtain ⟨a, b⟩ := w 0 q
      have e : wkM (mR μ c i true (nI 7)) (dst (mR μ c i true (nI 7)) 17 16 16) (0 + 1) = 17 := z
      omega
  have e2 : pvM μ c i = pvK (gOo σ c i) (min 16 c + 1) := pv_same hn (fun _ _ hx hy => gO_own R hc hi ho hx hy) (fun _ _ h => mR_in h) (fun _ => gO_irr)
  rw [e2]
  simp only [e1]
  by_cases a : ovC σ i = true
  · rw [if_pos a, if_pos a]
  · rw [if_neg a, if_neg a]
    by_cases b : p < 1
    · rw [if_pos b, if_pos b]
    · rw [if_neg b, if_neg b]
      by_cases d : 0 < rgQ (gRo σ c i) (min 16 c + 1)
      · rw [if_pos d, if_pos d]
      · rw [if_neg d, if_neg d]
        by_cases f : p < 2
        · rw [if_pos f, if_neg (fun q => by omega)]
        · rw [if_neg f]
          by_cases g : pvK (gOo σ c i) (min 16 c + 1) = true
          · rw [if_pos g, if_pos ⟨by omega, g⟩]
          · rw [if_neg g, if_neg (fun q => g q.2)]
theorem wyC_lt (σ : sn_V) (c i p : Nat) : wyC σ c i p < 4 := by unfold wyC; split; omega; split; omega; split; omega; split; omega; split <;> omega
/-- rings among the kept commits -/
theorem dst_17n {R : Nat → Nat → Bool} {n l : Nat} (hn : n ≤ 17) (h : ∀ x y, R x y = true → y < n) : ∀ k i, dst R 17 l k i = dst R n l k i := by
  intro k
  induction k with
  | zero => intro i; rfl
  | succ k ih =>
    intro i
    rw [dst_s, dst_s, ih i]
    have e : anyN (fun j => R i j && decide (dst R 17 l k j = k)) 17 = anyN (fun j => R i j && decide (dst R n l k j = k)) n := by
      rw [Bool.eq_iff_iff, anyN_t, anyN_t]
      constructor
      · rintro ⟨j, hj, q⟩
        rw [Bool.and_eq_true] at q
        exact ⟨j, h _ _ q.1, by rw [← ih j, Bool.and_eq_true]; exact q⟩
      · rintro ⟨j, hj, q⟩
        exact ⟨j, by omega, by rw [ih j]; exact q⟩
    rw [e]
theorem rm_same {R : Nat → Nat → Bool} {n : Nat} (hn : n ≤ 16) (h : ∀ x y, R x y = true → y < n) : smN (rmF R) n 0 = rcN R n := by
  unfold rcN
  refine smN_cong n 0 (fun i _ hi => ?_)
  have hi : i < n := by omega
  unfold rmF
  congr 1
  rw [Bool.eq_iff_iff, decide_eq_true_iff, ring_iff hn hi h]
  have hD : ∀ b, b < n → dst R 17 i 16 b = dst R n i (n - 1) b := fun b hb => by
    rw [dst_17n (by omega) h]
    have := @dst_stab R n i hi (16 - (n - 1)) (by omega) b hb
    rw [show n - 1 + (16 - (n - 1)) = 16 by omega] at this
    exact this
  constructor
  · intro z
    obtain ⟨u1, u2⟩ := nxN_D 17 z
    have hb := h _ _ u1
    exact ⟨_, hb, u1, by rw [← hD _ hb]; exact u2⟩
  · rintro ⟨b, hb, r, w⟩ z
    rw [← hD b hb] at w
    exact w ((@nxN_spec R (dst R 17 i 16) i 17 (Nat.le_refl _)).1 z b (by omega) r)
theorem gR_lt {σ : sn_V} {N : Nat} {nr nn : Nat → Nat} {x y : Nat} (h : gR σ N nr nn x y = true) : y < N := (gR_iff.mp h).1.2.1
theorem gO_lt {σ : sn_V} {N : Nat} {nr nn : Nat → Nat} {x y : Nat} (h : gO σ N nr nn x y = true) : y < N := (gO_iff.mp h).1.2.1
/-- the order: what the class tells is what the Model tells -/
theorem od_same {R : Nat → Nat → Bool} {n q T i : Nat} {f : Nat → Int32} (hq : (q = n ∧ ∀ t, t < n → odN R n t < n) ∨ (q = 0 ∧ ∃ t, t < n ∧ (∀ u, u < t → odN R n u < n) ∧ odN R n t = n)) (hT : T ≤ n) (h1 : ∀ t, t < T → odN R n t < n) (h2 : odN R n T = n) :
    (if i < q then f i else -(nI 20006)) = if T = n ∧ i < T then f i else -(nI 20006) := by
  rcases hq with ⟨a, b⟩ | ⟨a, t, t1, t2, t3⟩
  · have e : T = n := by
      apply Classical.byContradiction
      intro z
      have := b T (by omega)
      omega
    rw [a, e]
    by_cases w : i < n
    · rw [if_pos w, if_pos ⟨rfl, w⟩]
    · rw [if_neg w, if_neg (fun z => w z.2)]
  · rw [a, if_neg (Nat.not_lt_zero i), if_neg (fun z => by have := h1 t (by omega); omega)]
theorem sumK_cg {m : Int32} {f g : Nat → Int32} : ∀ n, (∀ k, k < n → f k = g k) → sumK m f n = sumK m g n := by
  intro n
  induction n with
  | zero => intro _; rfl
  | succ n ih =>
    intro h
    unfold sumK
    rw [ih (fun k hk => h k (by omega)), h n (Nat.lt_succ_self n)]
