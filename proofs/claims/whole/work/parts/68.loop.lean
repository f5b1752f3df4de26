/-! ===== the law's loop, by the pairs of calls ===== -/
theorem lw_case {L B X M p1 p2 : Nat} {scr : Nat → Int32} {eX eM : sn_L} {h : sn_H} {v3 : Int32} {Q : Option Value → sn_H → Prop} (I : Inv B L scr h) (hn : 104 ≤ hN h) (T : Two L scr B X M eX eM h) (hr : sn_mR X = some .int ∨ sn_mR X = some .boolean)
    (R1 : ∀ (x : Int32) (h1 : sn_H), LaS h1 L scr → hK h1 103 = (0, 5, 16) → wpE M 0 eM [] h1 (0, 0) (fun r hh => wpE 174 p2 [some (.ref 0), some (.ref 1), some (.ref 103), some (.int v3)] (r.toList ++ [.int x]) hh (110, 9460) Q) → wpE 174 p1 [some (.ref 0), some (.ref 1), some (.ref 103), some (.int v3)] [.int x] h1 (110, 9460) Q)
    (R2 : ∀ (x : Int32) (h2 : sn_H), wpE 174 798 [some (.ref 0), some (.ref 1), some (.ref 103), some (.int v3)] [] h2 (110, 9460) Q → wpE 174 p2 [some (.ref 0), some (.ref 1), some (.ref 103), some (.int v3)] [.int x, .int x] h2 (110, 9460) Q)
    (HN : ∀ h2, Inv (B + 80) L scr h2 → 104 ≤ hN h2 → wpE 174 798 [some (.ref 0), some (.ref 1), some (.ref 103), some (.int v3)] [] h2 (110, 9460) Q) :
    wpE X 0 eX [] h (0, 0) (fun r hh => wpE 174 p1 [some (.ref 0), some (.ref 1), some (.ref 103), some (.int v3)] (r.toList ++ []) hh (110, 9460) Q) := by
  have e : wpE X 0 eX [] h (0, 0) (fun v h1 => Kp h h1 → Rt X v → wpE 174 p1 [some (.ref 0), some (.ref 1), some (.ref 103), some (.int v3)] (v.toList ++ []) h1 (110, 9460) Q) := T _ (fun r h1 K kp rt => by
    obtain ⟨x, hx⟩ := rt hr
    injection hx with hx
    subst hx
    have La1 : LaS h1 L scr := ⟨(kp.2 0 (by omega)).1.trans I.1.1, fun k => ((kp.2 0 (by omega)).2 L I.1.1 k).trans (I.1.2 k)⟩
    obtain ⟨_, c, σ, s, st, n, tx, μ, C, A, R⟩ := I
    refine R1 x h1 La1 ((kp.2 103 (by omega)).1.trans A.1.1) ?_
    have e2 : wpE M 0 eM [] h1 (0, 0) (fun v h2 => Kp h1 h2 → wpE 174 p2 [some (.ref 0), some (.ref 1), some (.ref 103), some (.int v3)] (v.toList ++ [.int x]) h2 (110, 9460) Q) := K _ (fun h2 I2 kp2 => R2 x h2 (HN h2 I2 (by have := kp.1; have := kp2.1; omega)))
    exact wpE_m (fun v h2 z => z.2.2 z.1) (wpE_k e2))
  exact wpE_m (fun v h1 z => z.2.2 z.1 z.2.1) (wpE_k e)
theorem two_digest' {L : Nat} {scr : Nat → Int32} {B : Nat} {h : sn_H} (I : Inv B L scr h) (hB : B < 2 ^ 29) (Q : Option Value → sn_H → Prop) (K : ∀ (r : Int64) (h1 : sn_H), (∀ Q2 : Option Value → sn_H → Prop, (∀ h2, Inv (B + 80) L scr h2 → Q2 (some (.long r)) h2) → wpE 173 0 [some (.ref 103), none, none, none, none] [] h1 (0, 0) Q2) → Q (some (.long r)) h1) : wpE 88 0 [some (.ref 1), none, none, none] [] h (0, 0) Q := by
  obtain ⟨La, c, σ, s, st, n, tx, μ, C, A, R⟩ := I
  have hc : c < 2 ^ 30 := by have := R.1.2; omega
  obtain ⟨p, p1, p2, p3⟩ := R.1.1.2.1
  refine s_X_digest C R.1.1.c1 hc p2 p1 (fun h2 q f C2 oq => ?_)
  refine K _ _ (fun Q2 K2 => ?_)
  have A2 := f.Mo A (by omega)
  have La2 := f.La La (by omega)
  rw [A2.put]
  refine s_M_digest A2.1 R.1.1 hc p2 p1 oq (fun μ' g => ?_)
  exact K2 _ (two_fin (c := c) La2 C2 A2.1 (R.scr (by omega) g))
theorem lw_digest {L B : Nat} {scr : Nat → Int32} {h : sn_H} {v3 : Int32} {Q : Option Value → sn_H → Prop} (I : Inv B L scr h) (hn : 104 ≤ hN h) (hB : B < 2 ^ 29)
    (HN : ∀ h2, Inv (B + 80) L scr h2 → 104 ≤ hN h2 → wpE 174 798 [some (.ref 0), some (.ref 1), some (.ref 103), some (.int v3)] [] h2 (110, 9460) Q) :
    wpE 88 0 [some (.ref 1), none, none, none] [] h (0, 0) (fun r hh => wpE 174 788 [some (.ref 0), some (.ref 1), some (.ref 103), some (.int v3)] (r.toList ++ []) hh (110, 9460) Q) := by
  have e : wpE 88 0 [some (.ref 1), none, none, none] [] h (0, 0) (fun v h1 => Kp h h1 → wpE 174 788 [some (.ref 0), some (.ref 1), some (.ref 103), some (.int v3)] (v.toList ++ []) h1 (110, 9460) Q) := two_digest' I hB _ (fun x h1 K kp => by
    obtain ⟨_, c, σ, s, st, n, tx, μ, C, A, R⟩ := I
    refine r_L_law_788 ((kp.2 103 (by omega)).1.trans A.1.1) ?_
    have e2 : wpE 173 0 [some (.ref 103), none, none, none, none] [] h1 (0, 0) (fun v h2 => Kp h1 h2 → wpE 174 792 [some (.ref 0), some (.ref 1), some (.ref 103), some (.int v3)] (v.toList ++ [.long x]) h2 (110, 9460) Q) := K _ (fun h2 I2 kp2 => r_L_law_792 (fun _ => HN h2 I2 (by have := kp.1; have := kp2.1; omega)) (fun z => absurd (by unfold lg_cmp; simp) z))
    exact wpE_m (fun v h2 z => z.2.2 z.1) (wpE_k e2))
  exact wpE_m (fun v h1 z => z.2.2 z.1) (wpE_k e)
theorem lw_end {L k : Nat} (hL : L ≤ 2048) (hk : k ≤ 1000) : (nI L - nI 4) < nI (4 * k) ↔ L < 4 * k + 4 := by
  by_cases h4 : 4 ≤ L
  · rw [pk_sub h4, nI_ltI (by omega) (by omega)]
    omega
  · have : ∀ l : Nat, l < 4 → (nI l - nI 4) < nI 0 := by decide
    have h0 : nI 0 ≤ nI (4 * k) := by rw [nI_leI (by omega) (by omega)]; omega
    refine ⟨fun _ => by omega, fun _ => Int32.lt_of_lt_of_le (this L (by omega)) h0⟩
theorem lw_one {L k : Nat} {scr : Nat → Int32} (hL : L ≤ 2048) (hk : k ≤ 1000) (hl : 4 * k + 4 ≤ L) {h : sn_H} {Q : Option Value → sn_H → Prop} (I : Inv (80 * k) L scr h) (hn : 104 ≤ hN h)
    (HN : ∀ h2, Inv (80 * k + 80) L scr h2 → 104 ≤ hN h2 → wpE 174 798 [some (.ref 0), some (.ref 1), some (.ref 103), some (.int (nI (4 * k)))] [] h2 (110, 9460) Q) :
    wpE 174 18 [some (.ref 0), some (.ref 1), some (.ref 103), some (.int (nI (4 * k)))] [] h (110, 9460) Q := by
  have La := I.1
  have CX : hK h 1 = (0, 0, 5) := by
    obtain ⟨_, c, σ, s, st, n, tx, μ, C, A, R⟩ := I
    exact C.X.1
  have bd : ∀ j, j < 4 → vp_in (nI (4 * k) + nI j) L := fun j hj => by rw [nI_add]; exact inb (by omega)
  have ne : ¬ (nI L - nI 4) < nI (4 * k) := fun z => by have := (lw_end hL hk).mp z; omega
  refine r_L_law_18 La.1 (fun z => absurd z ne) (fun _ => inb (by omega)) (fun _ _ => ?_) (fun _ _ => ?_) (fun _ _ => ?_) (fun _ _ => ?_) (fun _ _ => ?_) (fun _ _ => ?_) (fun _ _ => ?_) (fun _ _ => ?_) (fun _ _ => ?_) (fun _ _ => ?_) (fun _ _ => ?_) (fun _ _ => ?_) (fun _ _ => ?_) (fun _ _ => ?_) (fun _ _ => ?_) (fun _ _ => ?_) (fun _ _ => ?_) (fun _ _ => ?_) (fun _ _ => ?_) (fun _ _ => ?_) (fun _ _ => ?_) (fun _ _ => ?_) (fun _ _ => ?_) (fun _ _ => ?_) (fun _ _ => ?_) (fun _ _ => ?_) (fun _ _ => ?_) (fun _ _ => HN h (I.mono (by omega)) hn)
  · -- setPolicy
    refine r_L_law_156 La.1 CX (bd 1 (by omega)) ?_
    rw [La.2]
    exact lw_case I hn (two_setPolicy I) (by first | exact Or.inl rfl | exact Or.inr rfl) (fun x h1 L1 k1 H => r_L_law_165 L1.1 k1 (bd 1 (by omega)) (by rw [L1.2]; exact H)) (fun x h2 H => r_L_law_174 (fun _ => H) (fun q => absurd rfl q)) HN
  · -- setConstraint
    refine r_L_law_179 La.1 CX (bd 1 (by omega)) (bd 2 (by omega)) (bd 3 (by omega)) ?_
    rw [La.2, La.2, La.2]
    exact lw_case I hn (two_setConstraint I) (by first | exact Or.inl rfl | exact Or.inr rfl) (fun x h1 L1 k1 H => r_L_law_198 L1.1 k1 (bd 1 (by omega)) (bd 2 (by omega)) (bd 3 (by omega)) (by rw [L1.2, L1.2, L1.2]; exact H)) (fun x h2 H => r_L_law_217 (fun _ => H) (fun q => absurd rfl q)) HN
  · -- begin
    refine r_L_law_222 La.1 CX (bd 1 (by omega)) ?_
    rw [La.2]
    exact lw_case I hn (two_begin I) (by first | exact Or.inl rfl | exact Or.inr rfl) (fun x h1 L1 k1 H => r_L_law_231 L1.1 k1 (bd 1 (by omega)) (by rw [L1.2]; exact H)) (fun x h2 H => r_L_law_240 (fun _ => H) (fun q => absurd rfl q)) HN
  · -- read
    refine r_L_law_245 La.1 CX (bd 1 (by omega)) (bd 2 (by omega)) ?_
    rw [La.2, La.2]
    exact lw_case I hn (two_read I) (by first | exact Or.inl rfl | exact Or.inr rfl) (fun x h1 L1 k1 H => r_L_law_259 L1.1 k1 (bd 1 (by omega)) (bd 2 (by omega)) (by rw [L1.2, L1.2]; exact H)) (fun x h2 H => r_L_law_273 (fun _ => H) (fun q => absurd rfl q)) HN
  · -- write
    refine r_L_law_278 La.1 CX (bd 1 (by omega)) (bd 2 (by omega)) (bd 3 (by omega)) ?_
    rw [La.2, La.2, La.2]
    exact lw_case I hn (two_write I) (by first | exact Or.inl rfl | exact Or.inr rfl) (fun x h1 L1 k1 H => r_L_law_297 L1.1 k1 (bd 1 (by omega)) (bd 2 (by omega)) (bd 3 (by omega)) (by rw [L1.2, L1.2, L1.2]; exact H)) (fun x h2 H => r_L_law_316 (fun _ => H) (fun q => absurd rfl q)) HN
  · -- commit
    refine r_L_law_321 La.1 CX (bd 1 (by omega)) ?_
    rw [La.2]
    exact lw_case I hn (two_commit I (by omega)) (by first | exact Or.inl rfl | exact Or.inr rfl) (fun x h1 L1 k1 H => r_L_law_330 L1.1 k1 (bd 1 (by omega)) (by rw [L1.2]; exact H)) (fun x h2 H => r_L_law_339 (fun _ => H) (fun q => absurd rfl q)) HN
  · -- abort
    refine r_L_law_344 La.1 CX (bd 1 (by omega)) ?_
    rw [La.2]
    exact lw_case I hn (two_abort I) (by first | exact Or.inl rfl | exact Or.inr rfl) (fun x h1 L1 k1 H => r_L_law_353 L1.1 k1 (bd 1 (by omega)) (by rw [L1.2]; exact H)) (fun x h2 H => r_L_law_362 (fun _ => H) (fun q => absurd rfl q)) HN
  · -- count
    refine r_L_law_367 La.1 CX (bd 1 (by omega)) ?_
    rw [La.2]
    exact lw_case I hn (two_count I (by omega)) (by first | exact Or.inl rfl | exact Or.inr rfl) (fun x h1 L1 k1 H => r_L_law_376 L1.1 k1 (bd 1 (by omega)) (by rw [L1.2]; exact H)) (fun x h2 H => r_L_law_385 (fun _ => H) (fun q => absurd rfl q)) HN
  · -- value
    refine r_L_law_390 La.1 CX (bd 1 (by omega)) ?_
    rw [La.2]
    exact lw_case I hn (two_value I) (by first | exact Or.inl rfl | exact Or.inr rfl) (fun x h1 L1 k1 H => r_L_law_399 L1.1 k1 (bd 1 (by omega)) (by rw [L1.2]; exact H)) (fun x h2 H => r_L_law_408 (fun _ => H) (fun q => absurd rfl q)) HN
  · -- version
    refine r_L_law_413 La.1 CX (bd 1 (by omega)) ?_
    rw [La.2]
    exact lw_case I hn (two_version I) (by first | exact Or.inl rfl | exact Or.inr rfl) (fun x h1 L1 k1 H => r_L_law_422 L1.1 k1 (bd 1 (by omega)) (by rw [L1.2]; exact H)) (fun x h2 H => r_L_law_431 (fun _ => H) (fun q => absurd rfl q)) HN
  · -- of
    refine r_L_law_436 La.1 CX (bd 1 (by omega)) (bd 2 (by omega)) ?_
    rw [La.2, La.2]
    exact lw_case I hn (two_of I (by omega)) (by first | exact Or.inl rfl | exact Or.inr rfl) (fun x h1 L1 k1 H => r_L_law_450 L1.1 k1 (bd 1 (by omega)) (bd 2 (by omega)) (by rw [L1.2, L1.2]; exact H)) (fun x h2 H => r_L_law_464 (fun _ => H) (fun q => absurd rfl q)) HN
  · -- ofCommit
    refine r_L_law_469 La.1 CX (bd 1 (by omega)) (bd 2 (by omega)) ?_
    rw [La.2, La.2]
    exact lw_case I hn (two_ofCommit I (by omega)) (by first | exact Or.inl rfl | exact Or.inr rfl) (fun x h1 L1 k1 H => r_L_law_483 L1.1 k1 (bd 1 (by omega)) (bd 2 (by omega)) (by rw [L1.2, L1.2]; exact H)) (fun x h2 H => r_L_law_497 (fun _ => H) (fun q => absurd rfl q)) HN
  · -- dependency
    refine r_L_law_502 La.1 CX (bd 1 (by omega)) (bd 2 (by omega)) ?_
    rw [La.2, La.2]
    exact lw_case I hn (two_dependency I (by omega)) (by first | exact Or.inl rfl | exact Or.inr rfl) (fun x h1 L1 k1 H => r_L_law_516 L1.1 k1 (bd 1 (by omega)) (bd 2 (by omega)) (by rw [L1.2, L1.2]; exact H)) (fun x h2 H => r_L_law_530 (fun _ => H) (fun q => absurd rfl q)) HN
  · -- ringOf
    refine r_L_law_535 La.1 CX (bd 1 (by omega)) (bd 2 (by omega)) ?_
    rw [La.2, La.2]
    exact lw_case I hn (two_ringOf I (by omega)) (by first | exact Or.inl rfl | exact Or.inr rfl) (fun x h1 L1 k1 H => r_L_law_549 L1.1 k1 (bd 1 (by omega)) (bd 2 (by omega)) (by rw [L1.2, L1.2]; exact H)) (fun x h2 H => r_L_law_563 (fun _ => H) (fun q => absurd rfl q)) HN
  · -- inRings
    refine r_L_law_568 CX  ?_
    exact lw_case I hn (two_inRings I (by omega)) (by first | exact Or.inl rfl | exact Or.inr rfl) (fun x h1 L1 k1 H => r_L_law_572 k1  H) (fun x h2 H => r_L_law_576 (fun _ => H) (fun q => absurd rfl q)) HN
  · -- orderAt
    refine r_L_law_581 La.1 CX (bd 1 (by omega)) ?_
    rw [La.2]
    exact lw_case I hn (two_orderAt I (by omega)) (by first | exact Or.inl rfl | exact Or.inr rfl) (fun x h1 L1 k1 H => r_L_law_590 L1.1 k1 (bd 1 (by omega)) (by rw [L1.2]; exact H)) (fun x h2 H => r_L_law_599 (fun _ => H) (fun q => absurd rfl q)) HN
  · -- skews
    refine r_L_law_604 CX  ?_
    exact lw_case I hn (two_skews I (by omega)) (by first | exact Or.inl rfl | exact Or.inr rfl) (fun x h1 L1 k1 H => r_L_law_608 k1  H) (fun x h2 H => r_L_law_612 (fun _ => H) (fun q => absurd rfl q)) HN
  · -- holds
    refine r_L_law_617 La.1 CX (bd 1 (by omega)) ?_
    rw [La.2]
    exact lw_case I hn (two_holds I) (by first | exact Or.inl rfl | exact Or.inr rfl) (fun x h1 L1 k1 H => r_L_law_626 L1.1 k1 (bd 1 (by omega)) (by rw [L1.2]; exact H)) (fun x h2 H => r_L_law_635 (fun _ => H) (fun q => absurd rfl q)) HN
  · -- holdsFor
    refine r_L_law_640 La.1 CX (bd 1 (by omega)) (bd 2 (by omega)) ?_
    rw [La.2, La.2]
    exact lw_case I hn (two_holdsFor I) (by first | exact Or.inl rfl | exact Or.inr rfl) (fun x h1 L1 k1 H => r_L_law_654 L1.1 k1 (bd 1 (by omega)) (bd 2 (by omega)) (by rw [L1.2, L1.2]; exact H)) (fun x h2 H => r_L_law_668 (fun _ => H) (fun q => absurd rfl q)) HN
  · -- ifAll
    refine r_L_law_673 CX  ?_
    exact lw_case I hn (two_ifAll I (by omega)) (by first | exact Or.inl rfl | exact Or.inr rfl) (fun x h1 L1 k1 H => r_L_law_677 k1  H) (fun x h2 H => r_L_law_681 (fun _ => H) (fun q => absurd rfl q)) HN
  · -- refusedBy
    refine r_L_law_686 La.1 CX (bd 1 (by omega)) ?_
    rw [La.2]
    exact lw_case I hn (two_refusedBy I (by omega)) (by first | exact Or.inl rfl | exact Or.inr rfl) (fun x h1 L1 k1 H => r_L_law_695 L1.1 k1 (bd 1 (by omega)) (by rw [L1.2]; exact H)) (fun x h2 H => r_L_law_704 (fun _ => H) (fun q => absurd rfl q)) HN
  · -- type
    refine r_L_law_709 La.1 CX (bd 1 (by omega)) ?_
    rw [La.2]
    exact lw_case I hn (two_type I) (by first | exact Or.inl rfl | exact Or.inr rfl) (fun x h1 L1 k1 H => r_L_law_718 L1.1 k1 (bd 1 (by omega)) (by rw [L1.2]; exact H)) (fun x h2 H => r_L_law_727 (fun _ => H) (fun q => absurd rfl q)) HN
  · -- clearText
    refine r_L_law_732 CX  ?_
    exact lw_case I hn (two_clearText I) (by first | exact Or.inl rfl | exact Or.inr rfl) (fun x h1 L1 k1 H => r_L_law_736 k1  H) (fun x h2 H => r_L_law_740 (fun _ => H) (fun q => absurd rfl q)) HN
  · -- syntaxError
    refine r_L_law_745 CX  ?_
    exact lw_case I hn (two_syntaxError I) (by first | exact Or.inl rfl | exact Or.inr rfl) (fun x h1 L1 k1 H => r_L_law_749 k1  H) (fun x h2 H => r_L_law_753 (fun _ => H) (fun q => absurd rfl q)) HN
  · -- carryOut
    refine r_L_law_758 CX  ?_
    exact lw_case I hn (two_carryOut I (by omega)) (by first | exact Or.inl rfl | exact Or.inr rfl) (fun x h1 L1 k1 H => r_L_law_762 k1  H) (fun x h2 H => r_L_law_766 (fun _ => H) (fun q => absurd rfl q)) HN
  · -- undo
    refine r_L_law_771 CX  ?_
    exact lw_case I hn (two_undo I) (by first | exact Or.inl rfl | exact Or.inr rfl) (fun x h1 L1 k1 H => r_L_law_775 k1  H) (fun x h2 H => r_L_law_779 (fun _ => H) (fun q => absurd rfl q)) HN
  · -- digest
    refine r_L_law_784 CX  ?_
    exact lw_digest I hn (by omega) HN
/-- the law's loop, from the k-th call on -/
theorem lw_loop {L : Nat} {scr : Nat → Int32} (hL : L ≤ 2048) {Q : Option Value → sn_H → Prop} (HQ : ∀ h, Q (some (.int (nI 1))) h) : ∀ (r k : Nat) (h : sn_H), k + r ≤ 600 → L < 4 * (k + r) + 4 → Inv (80 * k) L scr h → 104 ≤ hN h → wpE 174 18 [some (.ref 0), some (.ref 1), some (.ref 103), some (.int (nI (4 * k)))] [] h (110, 9460) Q := by
  intro r
  induction r with
  | zero =>
    intro k h h1 h2 I hn
    have z := (lw_end (k := k) hL (by omega)).mpr (by omega)
    exact r_L_law_18 I.1.1 (fun _ => HQ h) (fun q => absurd z q) (fun q => absurd z q) (fun q => absurd z q) (fun q => absurd z q) (fun q => absurd z q) (fun q => absurd z q) (fun q => absurd z q) (fun q => absurd z q) (fun q => absurd z q) (fun q => absurd z q) (fun q => absurd z q) (fun q => absurd z q) (fun q => absurd z q) (fun q => absurd z q) (fun q => absurd z q) (fun q => absurd z q) (fun q => absurd z q) (fun q => absurd z q) (fun q => absurd z q) (fun q => absurd z q) (fun q => absurd z q) (fun q => absurd z q) (fun q => absurd z q) (fun q => absurd z q) (fun q => absurd z q) (fun q => absurd z q) (fun q => absurd z q) (fun q => absurd z q) (fun q => absurd z q)
  | succ r ih =>
    intro k h h1 h2 I hn
    by_cases hl : 4 * k + 4 ≤ L
    · refine lw_one hL (by omega) hl I hn (fun h3 I3 n3 => r_L_law_798 ?_)
      rw [nI_add]
      exact ih (k + 1) h3 (by omega) (by omega) I3 n3
    · have z := (lw_end (k := k) hL (by omega)).mpr (by omega)
      exact r_L_law_18 I.1.1 (fun _ => HQ h) (fun q => absurd z q) (fun q => absurd z q) (fun q => absurd z q) (fun q => absurd z q) (fun q => absurd z q) (fun q => absurd z q) (fun q => absurd z q) (fun q => absurd z q) (fun q => absurd z q) (fun q => absurd z q) (fun q => absurd z q) (fun q => absurd z q) (fun q => absurd z q) (fun q => absurd z q) (fun q => absurd z q) (fun q => absurd z q) (fun q => absurd z q) (fun q => absurd z q) (fun q => absurd z q) (fun q => absurd z q) (fun q => absurd z q) (fun q => absurd z q) (fun q => absurd z q) (fun q => absurd z q) (fun q => absurd z q) (fun q => absurd z q) (fun q => absurd z q) (fun q => absurd z q) (fun q => absurd z q)
