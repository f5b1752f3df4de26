/-! ===== the text: a step of the Model is a stretch of the automaton; syntaxError ===== -/
theorem fe_stop {tx : Nat → Nat} {n a i : Nat} (hi : i ≤ n) (h9 : a < 9) (h : i < n → aw a (tx i) = 12) : feG tx (n - i) a i = some i := by
  by_cases q : i < n
  · rw [feG_s q, if_pos (h q)]
  · have e : i = n := by omega
    rw [e, feG_0, if_neg (by omega)]
theorem fe_go {tx : Nat → Nat} {n a b i : Nat} (hi : i < n) (h : aw a (tx i) = b) (hb : b ≠ 12) : feG tx (n - i) a i = feG tx (n - (i + 1)) b (i + 1) := by
  rw [feG_s hi, h, if_neg hb]
theorem aw_12 {x : Nat} (h : ¬ (48 ≤ x ∧ x ≤ 55)) : aw 1 x = 12 ∧ aw 2 x = 12 ∧ aw 4 x = 12 := ⟨if_neg h, if_neg h, if_neg h⟩
theorem aw_sl {x : Nat} (h : 48 ≤ x ∧ x ≤ 55) : aw 1 x = 11 ∧ aw 2 x = 3 ∧ aw 4 x = 5 := ⟨if_pos h, if_pos h, if_pos h⟩
theorem aw_ky {x : Nat} (h : 97 ≤ x ∧ x ≤ 108) : aw 3 x = 11 ∧ aw 5 x = 6 := ⟨if_pos h, if_pos h⟩
theorem aw_kn {x : Nat} (h : ¬ (97 ≤ x ∧ x ≤ 108)) : aw 3 x = 12 ∧ aw 5 x = 12 := ⟨if_neg h, if_neg h⟩
theorem aw_11 {x : Nat} (h : x ≠ 59) : aw 11 x = 12 := if_neg h
theorem aw_9 {x : Nat} (h : 48 ≤ x ∧ x ≤ 57) : aw 8 x = 9 ∧ aw 7 x = 9 ∧ aw 9 x = 10 ∧ aw 10 x = 11 := by
  refine ⟨if_pos h, ?_, ?_, ?_⟩
  · show (if x = 45 then 8 else if 48 ≤ x ∧ x ≤ 57 then 9 else 12) = 9
    rw [if_neg (by omega), if_pos h]
  · show (if x = 59 then 0 else if 48 ≤ x ∧ x ≤ 57 then 10 else 12) = 10
    rw [if_neg (by omega), if_pos h]
  · show (if x = 59 then 0 else if 48 ≤ x ∧ x ≤ 57 then 11 else 12) = 11
    rw [if_neg (by omega), if_pos h]
theorem aw_9n {x : Nat} (h : ¬ (48 ≤ x ∧ x ≤ 57)) (h2 : x ≠ 59) : aw 9 x = 12 ∧ aw 10 x = 12 := by
  refine ⟨?_, ?_⟩
  · show (if x = 59 then 0 else if 48 ≤ x ∧ x ≤ 57 then 10 else 12) = 12
    rw [if_neg h2, if_neg h]
  · show (if x = 59 then 0 else if 48 ≤ x ∧ x ≤ 57 then 11 else 12) = 12
    rw [if_neg h2, if_neg h]
theorem aw_7n {x : Nat} (h : ¬ (48 ≤ x ∧ x ≤ 57)) (h2 : x ≠ 45) : aw 7 x = 12 := by
  show (if x = 45 then 8 else if 48 ≤ x ∧ x ≤ 57 then 9 else 12) = 12
  rw [if_neg h2, if_neg h]
def EndA (tx : Nat → Nat) (n a q : Nat) : Prop := 9 ≤ a ∧ a < 12 ∧ (q < n → tx q ≠ 59 → aw a (tx q) = 12)
/-- digits of a value, from the state s -/
theorem fe_dig {tx : Nat → Nat} {n f s : Nat} (hf : f ≤ n) (hs : s = 8 ∨ (s = 7 ∧ ¬ (f < n ∧ tx f = 45))) :
    (¬ f < (vD tx n 3 f 0).2 → (vD tx n 3 f 0).2 = f ∧ feG tx (n - f) s f = some f) ∧ (f < (vD tx n 3 f 0).2 → (vD tx n 3 f 0).2 ≤ n ∧ ∃ a, EndA tx n a (vD tx n 3 f 0).2 ∧ feG tx (n - f) s f = feG tx (n - (vD tx n 3 f 0).2) a (vD tx n 3 f 0).2) ∧ ∀ i, f ≤ i → i < (vD tx n 3 f 0).2 → tx i ≠ 59 := by
  obtain ⟨v1, v2, v3, v4⟩ := @vD_le tx n 3 f 0
  generalize (vD tx n 3 f 0).2 = q at v1 v2 v3 v4
  have d0 : dgB tx n f → feG tx (n - f) s f = feG tx (n - (f + 1)) 9 (f + 1) := fun d => by
    obtain ⟨a1, a2, _, _⟩ := aw_9 d.2
    rcases hs with e | ⟨e, _⟩
    · rw [e]; exact fe_go d.1 a1 (by decide)
    · rw [e]; exact fe_go d.1 a2 (by decide)
  have d1 : dgB tx n (f + 1) → feG tx (n - (f + 1)) 9 (f + 1) = feG tx (n - (f + 2)) 10 (f + 2) := fun d => fe_go d.1 (aw_9 d.2).2.2.1 (by decide)
  have d2 : dgB tx n (f + 2) → feG tx (n - (f + 2)) 10 (f + 2) = feG tx (n - (f + 3)) 11 (f + 3) := fun d => fe_go d.1 (aw_9 d.2).2.2.2 (by decide)
  refine ⟨fun z => ?_, fun z => ?_, fun i a b => ?_⟩
  · have e : q = f := by omega
    refine ⟨e, fe_stop hf (by rcases hs with w | w <;> omega) (fun u => ?_)⟩
    rw [e] at v3
    have nd := v3 (by omega)
    have nd' : ¬ (48 ≤ tx f ∧ tx f ≤ 57) := fun y => nd ⟨u, y⟩
    rcases hs with w | ⟨w, w2⟩
    · rw [w]; exact if_neg nd'
    · rw [w]; exact aw_7n nd' (fun y => w2 ⟨u, y⟩)
  · have hq : q ≤ n := by
      have := (v4 (q - 1) (by omega) (by omega)).1
      omega
    refine ⟨hq, ?_⟩
    have e0 := d0 (v4 f (by omega) z)
    have nd : q < f + 3 → q < n → ¬ (48 ≤ tx q ∧ tx q ≤ 57) := fun u w y => v3 u ⟨w, y⟩
    have c : q = f + 1 ∨ q = f + 2 ∨ q = f + 3 := by omega
    rcases c with rfl | rfl | rfl
    · exact ⟨9, ⟨by omega, by omega, fun u w => (aw_9n (nd (by omega) u) w).1⟩, e0⟩
    · exact ⟨10, ⟨by omega, by omega, fun u w => (aw_9n (nd (by omega) u) w).2⟩, e0.trans (d1 (v4 (f + 1) (by omega) (by omega)))⟩
    · exact ⟨11, ⟨by omega, by omega, fun _ w => aw_11 w⟩, (e0.trans (d1 (v4 (f + 1) (by omega) (by omega)))).trans (d2 (v4 (f + 2) (by omega) (by omega)))⟩
  · have := (v4 i a b).2
    omega
theorem ngB_t {tx : Nat → Nat} {n p : Nat} : ngB tx n p = true ↔ p < n ∧ tx p = 45 := by
  unfold ngB
  rw [Bool.and_eq_true, decide_eq_true_iff, decide_eq_true_iff]
theorem fe_val {tx : Nat → Nat} {n p : Nat} (hp : p ≤ n) :
    fsN tx n p ≤ n ∧ (¬ fsN tx n p < (vD tx n 3 (fsN tx n p) 0).2 → (vD tx n 3 (fsN tx n p) 0).2 ≤ n ∧ feG tx (n - p) 7 p = some (vD tx n 3 (fsN tx n p) 0).2) ∧
    (fsN tx n p < (vD tx n 3 (fsN tx n p) 0).2 → p < (vD tx n 3 (fsN tx n p) 0).2 ∧ (vD tx n 3 (fsN tx n p) 0).2 ≤ n ∧ ∃ a, EndA tx n a (vD tx n 3 (fsN tx n p) 0).2 ∧ feG tx (n - p) 7 p = feG tx (n - (vD tx n 3 (fsN tx n p) 0).2) a (vD tx n 3 (fsN tx n p) 0).2) ∧
    ∀ i, p ≤ i → i < (vD tx n 3 (fsN tx n p) 0).2 → tx i ≠ 59 := by
  by_cases b : ngB tx n p = true
  · obtain ⟨b1, b2⟩ := ngB_t.mp b
    have ef : fsN tx n p = p + 1 := if_pos b
    rw [ef]
    have e0 : feG tx (n - p) 7 p = feG tx (n - (p + 1)) 8 (p + 1) := fe_go b1 (by rw [b2]; rfl) (by decide)
    obtain ⟨u1, u2, u3⟩ := @fe_dig tx n (p + 1) 8 (by omega) (Or.inl rfl)
    refine ⟨by omega, fun z => ?_, fun z => ?_, fun i x y => ?_⟩
    · obtain ⟨w1, w2⟩ := u1 z
      rw [w1, e0, w2]
      exact ⟨by omega, rfl⟩
    · obtain ⟨w1, a, w2, w3⟩ := u2 z
      exact ⟨by omega, w1, a, w2, e0.trans w3⟩
    · by_cases c : i = p
      · rw [c, b2]; decide
      · exact u3 i (by omega) y
  · have ef : fsN tx n p = p := if_neg b
    rw [ef]
    obtain ⟨u1, u2, u3⟩ := @fe_dig tx n p 7 hp (Or.inr ⟨rfl, fun z => b (ngB_t.mpr z)⟩)
    refine ⟨hp, fun z => ?_, fun z => ?_, u3⟩
    · obtain ⟨w1, w2⟩ := u1 z
      rw [w1, w2]
      exact ⟨hp, rfl⟩
    · obtain ⟨w1, a, w2, w3⟩ := u2 z
      exact ⟨z, w1, a, w2, w3⟩
/-- a step from p to q is read -/
def StpOk (tx : Nat → Nat) (n p q : Nat) : Prop := p < q ∧ q ≤ n ∧ (∃ a, EndA tx n a q ∧ feG tx (n - p) 0 p = feG tx (n - q) a q) ∧ ∀ i, p ≤ i → i < q → tx i ≠ 59
def StpIn (tx : Nat → Nat) (n p : Nat) (μ : sn_V) : Prop :=
  (μ 0 12 = nI (tx p) ∧ (tx p = 97 ∨ tx p = 98 ∨ tx p = 99 ∨ tx p = 114 ∨ tx p = 119)) ∧ (p + 1 < n ∧ 48 ≤ tx (p + 1) ∧ tx (p + 1) ≤ 55 ∧ μ 0 13 = nI (tx (p + 1) - 48)) ∧ ((tx p = 114 ∨ tx p = 119) → p + 2 < n ∧ 97 ≤ tx (p + 2) ∧ tx (p + 2) ≤ 108 ∧ μ 0 14 = nI (tx (p + 2) - 97)) ∧
  (tx p = 119 → p + 4 ≤ n ∧ μ 0 15 = sgV (ngB tx n (p + 4)) (vD tx n 3 (fsN tx n (p + 4)) 0).1)
theorem s_M_readsStep {h : sn_H} {μ : sn_V} {n p : Nat} {tx : Nat → Nat} {Q : Option Value → sn_H → Prop} (S : MoS h 103) (T : TxM μ n tx) (hp : μ 0 11 = nI p) (hpn : p ≤ n)
    (H1 : ∀ μ' q, psc μ μ' → μ' 0 11 = nI q → StpOk tx n p q → StpIn tx n p μ' → Q (some (.int (nI 1))) (mpt h 103 μ')) (H2 : ∀ μ' q, psc μ μ' → μ' 0 11 = nI q → q ≤ n → feG tx (n - p) 0 p = some q → Q (some (.int (nI 0))) (mpt h 103 μ')) :
    wpE 163 0 [some (.ref 103), none] [] (mpt h 103 μ) (0, 0) Q := by
  have n80 := T.1
  obtain ⟨e5, e11⟩ := tm_e (h := h) T hp
  -- behind the letter
  have mid : p < n → (tx p = 97 ∨ tx p = 98 ∨ tx p = 99 ∨ tx p = 114 ∨ tx p = 119) → wpE 163 69 [some (.ref 103), none] [] (mpt h 103 (up (up μ 0 12 (nI (tx p))) 0 11 (nI (p + 1)))) (0, 0) Q := by
    intro hlt hl
    have p1 : psc μ (up (up μ 0 12 (nI (tx p))) 0 11 (nI (p + 1))) := (psc_up (by omega)).tr (psc_up (by omega))
    have a12 : (up (up μ 0 12 (nI (tx p))) 0 11 (nI (p + 1))) 0 12 = nI (tx p) := by rw [up_n (by omega), up_s]
    have a11 : (up (up μ 0 12 (nI (tx p))) 0 11 (nI (p + 1))) 0 11 = nI (p + 1) := up_s
    generalize (up (up μ 0 12 (nI (tx p))) 0 11 (nI (p + 1))) = μ1 at p1 a12 a11
    have T1 := T.ps p1
    have r126 := (T.2.2 p hlt).2
    have h12 : ∀ (μ' : sn_V), μ' 0 12 = nI (tx p) → ∀ x, x < 127 → ((hG (mpt h 103 μ') 103 12) = nI x ↔ tx p = x) := fun μ' e x hx => by rw [mpt_get0, e, nI_eq (by omega) (by omega)]
    refine r_M_readsStep_69 S.1 (s_M_readsSlot S T1 a11 (by omega) (fun s1 s2 s3 => ?_) (fun s1 v => ?_))
    · -- the slot is read
      have p2 : psc μ (up (up μ1 0 13 (nI (tx (p + 1) - 48))) 0 11 (nI (p + 1 + 1))) := (p1.tr (psc_up (by omega))).tr (psc_up (by omega))
      have b12 : (up (up μ1 0 13 (nI (tx (p + 1) - 48))) 0 11 (nI (p + 1 + 1))) 0 12 = nI (tx p) := by rw [up_n (by omega), up_n (by omega)]; exact a12
      have b13 : (up (up μ1 0 13 (nI (tx (p + 1) - 48))) 0 11 (nI (p + 1 + 1))) 0 13 = nI (tx (p + 1) - 48) := by rw [up_n (by omega), up_s]
      have b11 : (up (up μ1 0 13 (nI (tx (p + 1) - 48))) 0 11 (nI (p + 1 + 1))) 0 11 = nI (p + 2) := up_s
      generalize (up (up μ1 0 13 (nI (tx (p + 1) - 48))) 0 11 (nI (p + 1 + 1))) = μ2 at p2 b12 b13 b11
      have T2 := T.ps p2
      obtain ⟨c1, c2, c4⟩ := aw_sl ⟨s2, s3⟩
      have e114 := h12 μ2 b12 114 (by omega)
      have e119 := h12 μ2 b12 119 (by omega)
      have n59 : tx p ≠ 59 ∧ tx (p + 1) ≠ 59 := ⟨by omega, by omega⟩
      -- a key is read, in the state s
      have key : ∀ (s s' : Nat), feG tx (n - p) 0 p = feG tx (n - (p + 2)) s (p + 2) → (s = 3 ∨ s = 5) → (tx p = 114 ∧ s = 3 ∨ tx p = 119 ∧ s = 5) → wpE 166 0 [some (.ref 103), none] [] (mpt h 103 μ2) (0, 0) (fun r hh => wpE 163 100 [some (.ref 103), none] (r.toList ++ []) hh (0, 0) Q) := by
        intro s _ es hs hls
        refine s_M_readsKey S T2 b11 (by omega) (fun k1 k2 k3 => ?_) (fun k1 v => ?_)
        · have p3 : psc μ (up (up μ2 0 14 (nI (tx (p + 2) - 97))) 0 11 (nI (p + 2 + 1))) := (p2.tr (psc_up (by omega))).tr (psc_up (by omega))
          have d12 : (up (up μ2 0 14 (nI (tx (p + 2) - 97))) 0 11 (nI (p + 2 + 1))) 0 12 = nI (tx p) := by rw [up_n (by omega), up_n (by omega)]; exact b12
          have d13 : (up (up μ2 0 14 (nI (tx (p + 2) - 97))) 0 11 (nI (p + 2 + 1))) 0 13 = nI (tx (p + 1) - 48) := by rw [up_n (by omega), up_n (by omega)]; exact b13
          have d14 : (up (up μ2 0 14 (nI (tx (p + 2) - 97))) 0 11 (nI (p + 2 + 1))) 0 14 = nI (tx (p + 2) - 97) := by rw [up_n (by omega), up_s]
          have d11 : (up (up μ2 0 14 (nI (tx (p + 2) - 97))) 0 11 (nI (p + 2 + 1))) 0 11 = nI (p + 3) := up_s
          generalize (up (up μ2 0 14 (nI (tx (p + 2) - 97))) 0 11 (nI (p + 2 + 1))) = μ3 at p3 d12 d13 d14 d11
          have T3 := T.ps p3
          have f119 := h12 μ3 d12 119 (by omega)
          obtain ⟨g3, g5⟩ := aw_ky ⟨k2, k3⟩
          rcases hls with ⟨l, es3⟩ | ⟨l, es5⟩
          · rw [es3] at es
            have ee := es.trans (fe_go k1 g3 (by decide))
            refine r_M_readsStep_100 S.1 (fun z => absurd z bi_t) (fun z => absurd z bi_t) (fun _ _ => ?_) (fun _ z => ?_)
            · refine H1 μ3 (p + 3) p3 d11 ⟨by omega, by omega, ⟨11, ⟨by omega, by omega, fun _ w => aw_11 w⟩, ee⟩, fun i x y => ?_⟩ ⟨⟨d12, by omega⟩, ⟨by omega, s2, s3, d13⟩, fun _ => ⟨k1, k2, k3, d14⟩, fun z => by omega⟩
              have : i = p ∨ i = p + 1 ∨ i = p + 2 := by omega
              rcases this with rfl | rfl | rfl <;> omega
            · rw [f119] at z; omega
          · rw [es5] at es
            have ee := es.trans (fe_go k1 g5 (by decide))
            refine r_M_readsStep_100 S.1 (fun z => absurd z bi_t) (fun z => absurd z bi_t) (fun _ z => absurd (f119.mpr l) z) (fun _ _ => ?_)
            refine s_M_isNext S T3 d11 (by omega) (by omega) (fun i1 i2 => ?_) (fun i1 => ?_)
            · have p4 : psc μ (up μ3 0 11 (nI (p + 3 + 1))) := p3.tr (psc_up (by omega))
              have m12 : (up μ3 0 11 (nI (p + 3 + 1))) 0 12 = nI (tx p) := by rw [up_n (by omega)]; exact d12
              have m13 : (up μ3 0 11 (nI (p + 3 + 1))) 0 13 = nI (tx (p + 1) - 48) := by rw [up_n (by omega)]; exact d13
              have m14 : (up μ3 0 11 (nI (p + 3 + 1))) 0 14 = nI (tx (p + 2) - 97) := by rw [up_n (by omega)]; exact d14
              have m11 : (up μ3 0 11 (nI (p + 3 + 1))) 0 11 = nI (p + 4) := up_s
              generalize (up μ3 0 11 (nI (p + 3 + 1))) = μ4 at p4 m12 m13 m14 m11
              have e7 := ee.trans (fe_go (b := 7) i1 (by rw [i2]; rfl) (by decide))
              refine r_M_readsStep_128 S.1 (fun z => absurd z bi_t) (fun _ => ?_)
              refine s_M_readsValue S (T.ps p4) m11 (by omega) (fun μ5 p5 fr q11 q15 => ?_)
              obtain ⟨v1, v2, v3, v4⟩ := @fe_val tx n (p + 4) (by omega)
              by_cases dd : fsN tx n (p + 4) < (vD tx n 3 (fsN tx n (p + 4)) 0).2
              · rw [decide_eq_true dd]
                obtain ⟨w0, w1, a, w2, w3⟩ := v3 dd
                refine r_M_readsStep_135 (fun z => absurd z bi_t) (fun _ => ?_)
                refine H1 μ5 _ (p4.tr p5) q11 ⟨by omega, w1, ⟨a, w2, e7.trans w3⟩, fun i x y => ?_⟩ ⟨⟨by rw [fr 12 (by omega) (by omega)]; exact m12, hl⟩, ⟨by omega, s2, s3, by rw [fr 13 (by omega) (by omega)]; exact m13⟩, fun _ => ⟨k1, k2, k3, by rw [fr 14 (by omega) (by omega)]; exact m14⟩, fun _ => ⟨by omega, q15⟩⟩
                by_cases c : p + 4 ≤ i
                · exact v4 i c y
                · have : i = p ∨ i = p + 1 ∨ i = p + 2 ∨ i = p + 3 := by omega
                  rcases this with rfl | rfl | rfl | rfl <;> omega
              · rw [decide_eq_false dd]
                obtain ⟨w1, w2⟩ := v2 dd
                exact r_M_readsStep_135 (fun _ => H2 μ5 _ (p4.tr p5) q11 w1 (e7.trans w2)) (fun z => absurd bi_f z)
            · have ef := ee.trans (fe_stop (a := 6) (by omega : p + 3 ≤ n) (by omega) (fun u => if_neg (fun z => i1 ⟨u, z⟩)))
              exact r_M_readsStep_128 S.1 (fun _ => H2 μ3 (p + 3) p3 d11 (by omega) ef) (fun z => absurd bi_f z)
        · have ef : feG tx (n - p) 0 p = some (p + 2) := es.trans (fe_stop (by omega) (by omega) (fun u => by
            obtain ⟨g3, g5⟩ := aw_kn (x := tx (p + 2)) (fun z => k1 ⟨u, z⟩)
            rcases hs with w | w
            · rw [w]; exact g3
            · rw [w]; exact g5))
          have fin := H2 (up μ2 0 14 v) (p + 2) (p2.tr (psc_up (by omega))) (by rw [up_n (by omega)]; exact b11) (by omega) ef
          exact r_M_readsStep_100 S.1 (fun _ _ => fin) (fun _ _ => fin) (fun z => absurd bi_f z) (fun z => absurd bi_f z)
      refine r_M_readsStep_73 S.1 (fun _ z => absurd z bi_t) (fun _ z => absurd z bi_t) (fun z _ => ?_) (fun z z2 => ?_) (fun _ _ => by decide) (fun _ _ z => absurd z bi_t) (fun _ z _ => ?_)
      · have l : tx p = 114 := e114.mp z
        have e1 : feG tx (n - p) 0 p = feG tx (n - (p + 1)) 2 (p + 1) := fe_go hlt (by rw [l]; rfl) (by decide)
        exact key 3 0 (e1.trans (fe_go s1 c2 (by decide))) (Or.inl rfl) (Or.inl ⟨l, rfl⟩)
      · have l : tx p = 97 ∨ tx p = 98 ∨ tx p = 99 := by
          have l1 : tx p ≠ 114 := fun y => z (e114.mpr y)
          have l2 : tx p ≠ 119 := fun y => z2 (e119.mpr y)
          omega
        have e1 : feG tx (n - p) 0 p = feG tx (n - (p + 1)) 1 (p + 1) := fe_go hlt (if_pos l) (by decide)
        refine H1 μ2 (p + 2) p2 b11 ⟨by omega, by omega, ⟨11, ⟨by omega, by omega, fun _ w => aw_11 w⟩, e1.trans (fe_go s1 c1 (by decide))⟩, fun i x y => ?_⟩ ⟨⟨b12, hl⟩, ⟨s1, s2, s3, b13⟩, fun y => by omega, fun y => by omega⟩
        have : i = p ∨ i = p + 1 := by omega
        rcases this with rfl | rfl
        · exact n59.1
        · exact n59.2
      · have l : tx p = 119 := e119.mp z
        have e1 : feG tx (n - p) 0 p = feG tx (n - (p + 1)) 4 (p + 1) := fe_go hlt (by rw [l]; rfl) (by decide)
        exact key 5 0 (e1.trans (fe_go s1 c4 (by decide))) (Or.inr rfl) (Or.inr ⟨l, rfl⟩)
    · -- no slot
      have ef : feG tx (n - p) 0 p = some (p + 1) := by
        have c : tx p = 114 ∨ tx p = 119 ∨ (tx p = 97 ∨ tx p = 98 ∨ tx p = 99) := by omega
        rcases c with l | l | l
        · exact (fe_go (b := 2) hlt (by rw [l]; rfl) (by decide)).trans (fe_stop (by omega) (by omega) (fun u => (aw_12 (fun z => s1 ⟨u, z⟩)).2.1))
        · exact (fe_go (b := 4) hlt (by rw [l]; rfl) (by decide)).trans (fe_stop (by omega) (by omega) (fun u => (aw_12 (fun z => s1 ⟨u, z⟩)).2.2))
        · exact (fe_go (tx := tx) (a := 0) (b := 1) hlt (show aw 0 (tx p) = 1 from if_pos l) (by decide)).trans (fe_stop (by omega) (by omega) (fun u => (aw_12 (fun z => s1 ⟨u, z⟩)).1))
      have fin := H2 (up μ1 0 13 v) (p + 1) (p1.tr (psc_up (by omega))) (by rw [up_n (by omega)]; exact a11) (by omega) ef
      exact r_M_readsStep_73 S.1 (fun _ _ _ => fin) (fun _ _ _ => fin) (fun _ z => absurd bi_f z) (fun _ _ => fin) (fun _ _ => by decide) (fun _ _ _ => fin) (fun _ _ z => absurd bi_f z)
  -- the letter
  by_cases hlt : p < n
  · have nle : ¬ hG (mpt h 103 μ) 103 5 ≤ hG (mpt h 103 μ) 103 11 := by
      rw [e5, e11]
      exact nI_ge hlt (by omega)
    have r126 := (T.2.2 p hlt).2
    have hc := tm_c (h := h) T hp hlt
    have hs : ∀ v, hG (setG (mpt h 103 μ) 103 12 v) 103 12 = v := fun v => setG_s
    have hx : ∀ x, x < 127 → (hG (setG (mpt h 103 μ) 103 12 (hG (mpt h 103 μ) (103 + 4) (hG (mpt h 103 μ) 103 11).toNatClampNeg)) 103 12 = nI x ↔ tx p = x) := fun x hx => by rw [hs, hc, nI_eq (by omega) (by omega)]
    have go : setG (setG (mpt h 103 μ) 103 12 (hG (mpt h 103 μ) (103 + 4) (hG (mpt h 103 μ) 103 11).toNatClampNeg)) 103 11 ((hG (setG (mpt h 103 μ) 103 12 (hG (mpt h 103 μ) (103 + 4) (hG (mpt h 103 μ) 103 11).toNatClampNeg)) 103 11) + nI 1) = mpt h 103 (up (up μ 0 12 (nI (tx p))) 0 11 (nI (p + 1))) := by
      rw [hc, mpt_set0, mpt_get0, up_n (by omega), hp, nI_s, mpt_set0]
    refine r_M_readsStep_0 S.1 S.f4.1 S.f4.2 (fun z => absurd z nle) (fun z => absurd z nle) (fun z => absurd z nle) (fun z => absurd z nle) (fun z => absurd z nle) (fun z => absurd z nle) (fun _ => by rw [e11]; exact inb (by omega))
      (fun _ z => ?_) (fun _ _ z => ?_) (fun _ _ _ z => ?_) (fun _ _ _ _ z => ?_) (fun _ _ _ _ _ z => ?_) (fun _ z1 z2 z3 z4 z5 => ?_)
    · rw [hx 98 (by omega)] at z; rw [go]; exact mid hlt (by omega)
    · rw [hx 114 (by omega)] at z; rw [go]; exact mid hlt (by omega)
    · rw [hx 119 (by omega)] at z; rw [go]; exact mid hlt (by omega)
    · rw [hx 99 (by omega)] at z; rw [go]; exact mid hlt (by omega)
    · rw [hx 97 (by omega)] at z; rw [go]; exact mid hlt (by omega)
    · rw [hx 98 (by omega)] at z1
      rw [hx 114 (by omega)] at z2
      rw [hx 119 (by omega)] at z3
      rw [hx 99 (by omega)] at z4
      rw [hx 97 (by omega)] at z5
      have e12 : aw 0 (tx p) = 12 := by
        show (if tx p = 97 ∨ tx p = 98 ∨ tx p = 99 then 1 else if tx p = 114 then 2 else if tx p = 119 then 4 else 12) = 12
        rw [if_neg (by omega), if_neg (by omega), if_neg (by omega)]
      rw [mpt_set0]
      exact H2 _ p (psc_up (by omega)) (by rw [up_n (by omega)]; exact hp) hpn (fe_stop hpn (by omega) (fun _ => e12))
  · have le : hG (mpt h 103 μ) 103 5 ≤ hG (mpt h 103 μ) 103 11 := by
      rw [e5, e11]
      exact nI_le (by omega) (by omega)
    have hs : hG (setG (mpt h 103 μ) 103 12 (-(nI 1))) 103 12 = -(nI 1) := setG_s
    refine r_M_readsStep_0 S.1 S.f4.1 S.f4.2 (fun _ z => ?_) (fun _ _ z => ?_) (fun _ _ _ z => ?_) (fun _ _ _ _ z => ?_) (fun _ _ _ _ _ z => ?_) (fun _ _ _ _ _ _ => ?_) (fun z => absurd le z) (fun z => absurd le z) (fun z => absurd le z) (fun z => absurd le z) (fun z => absurd le z) (fun z => absurd le z) (fun z => absurd le z)
    · rw [hs] at z; exact absurd z (by decide)
    · rw [hs] at z; exact absurd z (by decide)
    · rw [hs] at z; exact absurd z (by decide)
    · rw [hs] at z; exact absurd z (by decide)
    · rw [hs] at z; exact absurd z (by decide)
    · rw [mpt_set0]
      exact H2 _ p (psc_up (by omega)) (by rw [up_n (by omega)]; exact hp) hpn (fe_stop hpn (by omega) (fun z => absurd z hlt))
theorem s_M_findError {h : sn_H} {μ : sn_V} {n : Nat} {tx : Nat → Nat} {Q : Option Value → sn_H → Prop} (S : MoS h 103) (T : TxM μ n tx)
    (H : ∀ μ', psc μ μ' → Q (some (.int (fE (feG tx n 0 0)))) (mpt h 103 μ')) : wpE 162 0 [some (.ref 103)] [] (mpt h 103 μ) (0, 0) Q := by
  have n80 := T.1
  refine r_M_findError_0 S.1 ?_
  rw [mpt_set0]
  suffices ∀ (r p : Nat) (μ1 : sn_V), p ≤ n → n - p ≤ r → psc μ μ1 → μ1 0 11 = nI p → feG tx n 0 0 = feG tx (n - p) 0 p → wpE 162 5 [some (.ref 103)] [] (mpt h 103 μ1) (0, 0) Q from
    this n 0 _ (Nat.zero_le _) (by omega) (psc_up (by omega)) up_s rfl
  intro r
  induction r with
  | zero => ?_
  | succ r ih => ?_
  · intro p μ1 hp hr ps h11 e
    have ep : p = n := by omega
    subst ep
    refine r_M_findError_5 S.1 (s_M_readsStep S (T.ps ps) h11 hp (fun μ' q _ _ ok _ => by have := ok.1; have := ok.2.1; exfalso; omega) (fun μ' q p2 h2 hq ef => ?_))
    have e5 : hG (mpt h 103 μ') 103 11 = nI q := by rw [mpt_get0]; exact h2
    refine r_M_findError_9 S.1 (fun z => absurd bi_f z) (fun z => absurd bi_f z) (fun _ => ?_)
    have HH := H μ' (ps.tr p2)
    rw [e, ef] at HH
    rw [e5]
    exact HH
  · intro p μ1 hp hr ps h11 e
    refine r_M_findError_5 S.1 (s_M_readsStep S (T.ps ps) h11 hp (fun μ' q p2 h2 ok _ => ?_) (fun μ' q p2 h2 hq ef => ?_))
    · obtain ⟨o1, o2, ⟨a, ⟨a9, a12, ea⟩, fe⟩, _⟩ := ok
      have T2 := T.ps (ps.tr p2)
      obtain ⟨e5, e11⟩ := tm_e (h := h) T2 h2
      refine r_M_findError_9 S.1 (fun _ z => ?_) (fun _ z => ?_) (fun z => absurd z bi_t)
      · have qn : q < n := by
          rcases Nat.lt_or_ge q n with w | w
          · exact w
          · have : q = n := by omega
            rw [e5, e11, this] at z
            exact absurd rfl z
        refine s_M_isNext S T2 h2 o2 (by omega) (fun _ w => ?_) (fun w => ?_)
        · refine r_M_findError_38 S.1 (fun _ => ?_) (fun y => absurd y bi_t)
          refine ih (q + 1) _ (by omega) (by omega) ((ps.tr p2).tr (psc_up (by omega))) up_s ?_
          rw [e, fe]
          refine fe_go qn ?_ (by decide)
          rw [w]
          have : a = 9 ∨ a = 10 ∨ a = 11 := by omega
          rcases this with rfl | rfl | rfl <;> rfl
        · refine r_M_findError_38 S.1 (fun y => absurd bi_f y) (fun _ => ?_)
          have HH := H μ' (ps.tr p2)
          rw [e, fe, feG_s qn, if_pos (ea qn (fun y => w ⟨qn, y⟩))] at HH
          rw [e11]
          exact HH
      · rw [e5, e11, nI_eq (by omega) (by omega)] at z
        have HH := H μ' (ps.tr p2)
        rw [e, fe, z, feG_0, if_pos a9] at HH
        exact HH
    · have e5 : hG (mpt h 103 μ') 103 11 = nI q := by rw [mpt_get0]; exact h2
      refine r_M_findError_9 S.1 (fun z => absurd bi_f z) (fun z => absurd bi_f z) (fun _ => ?_)
      have HH := H μ' (ps.tr p2)
      rw [e, ef] at HH
      rw [e5]
      exact HH
theorem RI.tm {B c : Nat} {σ : sn_V} {s : Nat} {st : Nat → sn_V} {n : Nat} {tx : Nat → Nat} {μ : sn_V} (R : RI B c σ s st n tx μ) : TxM μ n tx := ⟨R.2.2.2.1.1, R.2.2.2.1.2, R.2.2.2.2⟩
theorem RI.ps {B B' c : Nat} {σ : sn_V} {s : Nat} {st : Nat → sn_V} {n : Nat} {tx : Nat → Nat} {μ μ' : sn_V} (R : RI B c σ s st n tx μ) (hB : B ≤ B') (h : psc μ μ') : RI B' c σ s st n tx μ' := by
  have e1 : μ' 1 = μ 1 := funext fun k => h 1 k (by omega)
  exact R.to (by rw [e1]; exact R.1.1) (by have := R.1.2; omega) hB (h 0 3 (by omega)) (h 0 5 (by omega)) (fun k => h 3 k (by omega)) (fun k => h 4 k (by omega))
theorem two_syntaxError {L : Nat} {scr : Nat → Int32} {B : Nat} {h : sn_H} (I : Inv B L scr h) : Two L scr B 71 161 [some (.ref 1)] [some (.ref 103)] h := by
  obtain ⟨La, c, σ, s, st, n, tx, μ, C, A, R⟩ := I
  have T := R.tm
  intro Q K
  refine r_X_syntaxError_0 C.X.1 C.X.2.2.2.2.2 C.T.1 (s_T_firstError C.T T.1 (fun i hi => by have := (T.2.2 i hi).2; omega) (r_X_syntaxError_7 ?_))
  refine K _ _ (fun Q2 K2 => ?_)
  rw [A.put]
  refine r_M_syntaxError_0 A.1.1 (s_M_findError A.1 T (fun μ' ps => r_M_syntaxError_4 ?_))
  exact K2 _ (two_fin (c := c) La C A.1 (R.ps (by omega) ps))
