/-! ===== the law's behind: who stands behind whom; steps: how far to a goal ===== -/
/-- nothing but new places -/
def Nw (h h' : sn_H) : Prop := hN h ≤ hN h' ∧ ∀ p, p < hN h → hK h' p = hK h p ∧ (∀ k, hR h' p k = hR h p k) ∧ ∀ k, hG h' p k = hG h p k
theorem Nw.rf (h : sn_H) : Nw h h := ⟨Nat.le_refl _, fun _ _ => ⟨rfl, fun _ => rfl, fun _ => rfl⟩⟩
theorem Nw.tr {h h1 h2 : sn_H} (a : Nw h h1) (b : Nw h1 h2) : Nw h h2 :=
  ⟨Nat.le_trans a.1 b.1, fun p hp => by
    obtain ⟨a1, a2, a3⟩ := a.2 p hp
    obtain ⟨b1, b2, b3⟩ := b.2 p (Nat.lt_of_lt_of_le hp a.1)
    exact ⟨b1.trans a1, fun k => (b2 k).trans (a2 k), fun k => (b3 k).trans (a3 k)⟩⟩
theorem Nw.al (h : sn_H) (kd : Nat × Nat × Nat) : Nw h (allocH h kd) :=
  ⟨Nat.le_succ _, fun p hp => by
    have e : ¬ p = h.1 := by intro z; have : p < h.1 := hp; omega
    exact ⟨if_neg e, fun _ => if_neg e, fun _ => if_neg e⟩⟩
theorem Nw.sG {h : sn_H} {p k : Nat} {v : Int32} {h0 : sn_H} (a : Nw h0 h) (hp : hN h0 ≤ p) : Nw h0 (setG h p k v) :=
  ⟨a.1, fun q hq => by
    obtain ⟨a1, a2, a3⟩ := a.2 q hq
    exact ⟨a1, a2, fun j => (if_neg (fun z => by omega)).trans (a3 j)⟩⟩
theorem Nw.A {h h' : sn_H} (a : Nw h h') {p n : Nat} {f : Nat → Int32} (A : Ar1 h p n f) (hp : p < hN h) : Ar1 h' p n f := ⟨(a.2 p hp).1.trans A.1, fun k => ((a.2 p hp).2.2 k).trans (A.2 k)⟩
theorem Nw.LQ {h h' : sn_H} (a : Nw h h') {pq pc pt c : Nat} {q cc t : Nat → Int32} (A : LQ h pq pc pt q cc t c) (h1 : pq < hN h) (h2 : pc < hN h) (h3 : pt < hN h) : LQ h' pq pc pt q cc t c := ⟨a.A A.1 h1, a.A A.2.1 h2, a.A A.2.2.1 h3, A.2.2.2⟩
theorem Nw.La {h h' : sn_H} (a : Nw h h') {L : Nat} {scr : Nat → Int32} (A : LaS h L scr) (h1 : 0 < hN h) : LaS h' L scr := ⟨(a.2 0 h1).1.trans A.1, fun k => ((a.2 0 h1).2.2 k).trans (A.2 k)⟩
/-- an array of 18 sets that tells a relation -/
def BE (h : sn_H) (p : Nat) (R : Nat → Nat → Bool) : Prop := hK h p = (1, 0, 18) ∧ ∀ a b, a < 18 → b < 32 → (bitP (hG h p a) b ↔ R a b = true)
theorem Nw.BE {h h' : sn_H} (a : Nw h h') {p : Nat} {R : Nat → Nat → Bool} (A : BE h p R) (hp : p < hN h) : BE h' p R := ⟨(a.2 p hp).1.trans A.1, fun i b hi hb => by rw [(a.2 p hp).2.2 i]; exact A.2 i b hi hb⟩
def lR (n : Nat) (F : Nat → Nat → Int32) (pm : Int32) (a b : Nat) : Bool := (((decide (1 ≤ a) && decide (a ≤ n)) && (decide (1 ≤ b) && decide (b ≤ n))) && decide (¬ a = b)) && decide (¬ (F a b &&& pm) = 0)
theorem lR_t {n : Nat} {F : Nat → Nat → Int32} {pm : Int32} {a b : Nat} : lR n F pm a b = true ↔ (1 ≤ a ∧ a ≤ n) ∧ (1 ≤ b ∧ b ≤ n) ∧ ¬ a = b ∧ ¬ (F a b &&& pm) = 0 := by
  unfold lR
  rw [Bool.and_eq_true, Bool.and_eq_true, Bool.and_eq_true, Bool.and_eq_true, Bool.and_eq_true, decide_eq_true_iff, decide_eq_true_iff, decide_eq_true_iff, decide_eq_true_iff, decide_eq_true_iff, decide_eq_true_iff]
  constructor
  · rintro ⟨⟨⟨h1, h2⟩, h3⟩, h4⟩; exact ⟨h1, h2, h3, h4⟩
  · rintro ⟨h1, h2, h3, h4⟩; exact ⟨⟨⟨h1, h2⟩, h3⟩, h4⟩
theorem hN_setG {h : sn_H} {p k : Nat} {v : Int32} : hN (setG h p k v) = hN h := rfl
theorem hK_setG {h : sn_H} {p k : Nat} {v : Int32} (x : Nat) : hK (setG h p k v) x = hK h x := rfl
/-- how far behind has come: the pairs that are done -/
def PE (h : sn_H) (e n : Nat) (F : Nat → Nat → Int32) (pm : Int32) (x y : Nat) : Prop := hK h e = (1, 0, 18) ∧ ∀ a b, a < 18 → b < 32 → (bitP (hG h e a) b ↔ lR n F pm a b = true ∧ (a < x ∨ (a = x ∧ b < y)))
theorem s_L_behind {h : sn_H} {pq pc pt c n : Nat} {q cc t tt : Nat → Int32} {sp : Nat → Nat} {sl pm : Int32} {Q : Option Value → sn_H → Prop} (A : LQ h pq pc pt q cc t c) (S : SL c n sl t tt)
    (hsp : ∀ x, 1 ≤ x → x ≤ n → prt c cc tt 0 x = nI (sp x) ∧ sp x ≤ 15) (h1 : pq < hN h) (h2 : pc < hN h) (h3 : pt < hN h)
    (H : ∀ h', Nw h h' → hN h < hN h' → BE h' (hN h) (lR n (lS (prt c cc tt) cc sp) pm) → Q (some (.ref (hN h))) h') :
    wpE 53 0 [some (.int sl), some (.int pm), some (.ref pq), some (.ref pc), some (.ref pt), none, none, none, none] [] h (0, 0) Q := by
  have c15 := A.2.2.2.2
  have hn : n ≤ c + 1 := by rcases S with z | z <;> omega
  refine r_L_behind_0 ?_
  have w0 : Nw h (allocH h (1, 0, 18)) := Nw.al h _
  have A0 := w0.LQ A h1 h2 h3
  have inner : ∀ a, 1 ≤ a → a ≤ n → (∀ h', Nw h h' → hN h < hN h' → PE h' (hN h) n (lS (prt c cc tt) cc sp) pm (a + 1) 0 → wpE 53 24 [some (.int sl), some (.int pm), some (.ref pq), some (.ref pc), some (.ref pt), some (.ref (hN h)), some (.int (nI n)), some (.int (nI (a + 1))), none] [] h' (1, 18) Q) →
      ∀ m b h', b + m = n + 1 → 1 ≤ b → Nw h h' → hN h < hN h' → PE h' (hN h) n (lS (prt c cc tt) cc sp) pm a b → wpE 53 34 [some (.int sl), some (.int pm), some (.ref pq), some (.ref pc), some (.ref pt), some (.ref (hN h)), some (.int (nI n)), some (.int (nI a)), some (.int (nI b))] [] h' (1, 18) Q := by
    intro a a1 an K m
    induction m with
    | zero =>
      intro b h' hb b1 w wn P
      have l : nI n < nI b := nI_lt (by omega) (by omega)
      refine r_L_behind_34 (fun _ => ?_) (fun z => absurd l z) (fun z => absurd l z)
      rw [nI_s]
      refine K h' w wn ⟨P.1, fun i j hi hj => ?_⟩
      rw [P.2 i j hi hj]
      constructor
      · rintro ⟨r, q⟩; exact ⟨r, by omega⟩
      · rintro ⟨r, q⟩
        have := (lR_t.mp r).2.1
        exact ⟨r, by omega⟩
    | succ m ih =>
      intro b h' hb b1 w wn P
      have l : ¬ nI n < nI b := nI_nlt (by omega) (by omega)
      have A' := w.LQ A h1 h2 h3
      have skip : ¬ (lR n (lS (prt c cc tt) cc sp) pm a b = true) → wpE 53 34 [some (.int sl), some (.int pm), some (.ref pq), some (.ref pc), some (.ref pt), some (.ref (hN h)), some (.int (nI n)), some (.int (nI a)), some (.int (nI b + nI 1))] [] h' (1, 18) Q := by
        intro nr
        rw [nI_s]
        refine ih (b + 1) h' (by omega) (by omega) w wn ⟨P.1, fun i j hi hj => ?_⟩
        rw [P.2 i j hi hj]
        constructor
        · rintro ⟨r, q⟩; exact ⟨r, by omega⟩
        · rintro ⟨r, q⟩
          refine ⟨r, ?_⟩
          by_cases e : i = a ∧ j = b
          · rw [e.1, e.2] at r; exact absurd r nr
          · omega
      refine r_L_behind_34 (fun z => absurd z l) (fun _ z => ?_) (fun _ z => ?_)
      · rw [nI_eq (by omega) (by omega)] at z
        exact skip (fun r => (lR_t.mp r).2.2.1 z)
      · rw [nI_eq (by omega) (by omega)] at z
        refine s_L_depends A' S hsp ⟨a1, an⟩ ⟨b1, by omega⟩ ?_
        refine r_L_behind_60 P.1 (fun y => ?_) (fun _ => inb (by omega)) (fun y => ?_)
        · exact skip (fun r => (lR_t.mp r).2.2.2 y)
        · have r : lR n (lS (prt c cc tt) cc sp) pm a b = true := lR_t.mpr ⟨⟨a1, an⟩, ⟨b1, by omega⟩, z, y⟩
          rw [nI_s, cl (by omega)]
          refine ih (b + 1) _ (by omega) (by omega) (w.sG (Nat.le_refl _)) wn ⟨P.1, fun i j hi hj => ?_⟩
          by_cases e : i = a
          · rw [e, setG_s, bitP_put (by omega) hj, P.2 a j (by omega) hj]
            constructor
            · rintro (⟨r', q⟩ | q)
              · exact ⟨r', by omega⟩
              · rw [q]; exact ⟨r, by omega⟩
            · rintro ⟨r', q⟩
              by_cases e2 : j = b
              · exact Or.inr e2
              · exact Or.inl ⟨r', by omega⟩
          · rw [setG_n (fun z => e z.2), P.2 i j hi hj]
            constructor
            · rintro ⟨r', q⟩; exact ⟨r', by omega⟩
            · rintro ⟨r', q⟩; exact ⟨r', by omega⟩
  have outer : ∀ m a h', a + m = n + 1 → 1 ≤ a → Nw h h' → hN h < hN h' → PE h' (hN h) n (lS (prt c cc tt) cc sp) pm a 0 → wpE 53 24 [some (.int sl), some (.int pm), some (.ref pq), some (.ref pc), some (.ref pt), some (.ref (hN h)), some (.int (nI n)), some (.int (nI a)), none] [] h' (1, 18) Q := by
    intro m
    induction m with
    | zero =>
      intro a h' ha a1 w wn P
      have l : nI n < nI a := nI_lt (by omega) (by omega)
      refine r_L_behind_24 (fun _ => ?_) (fun z => absurd l z)
      refine H h' w wn ⟨P.1, fun i j hi hj => ?_⟩
      rw [P.2 i j hi hj]
      constructor
      · exact fun r => r.1
      · intro r
        have := (lR_t.mp r).1
        exact ⟨r, by omega⟩
    | succ m ih =>
      intro a h' ha a1 w wn P
      have l : ¬ nI n < nI a := nI_nlt (by omega) (by omega)
      refine r_L_behind_24 (fun z => absurd z l) (fun _ => ?_)
      refine inner a a1 (by omega) (fun h2 w2 wn2 P2 => ih (a + 1) h2 (by omega) (by omega) w2 wn2 P2) n 1 h' (by omega) (Nat.le_refl 1) w wn ⟨P.1, fun i j hi hj => ?_⟩
      rw [P.2 i j hi hj]
      constructor
      · rintro ⟨r, q⟩; exact ⟨r, by omega⟩
      · rintro ⟨r, q⟩
        have := (lR_t.mp r).2.1
        exact ⟨r, by omega⟩
  have P0 : PE (allocH h (1, 0, 18)) (hN h) n (lS (prt c cc tt) cc sp) pm 1 0 := ⟨al_K h _, fun i j hi hj => by
    rw [al_G]
    constructor
    · exact fun z => absurd z (bitP_0 hj)
    · rintro ⟨r, q⟩
      have := (lR_t.mp r).1
      omega⟩
  refine r_L_behind_4 A0.1.1 (inb (by omega)) (fun z => ?_) (fun z => ?_)
  · rw [A0.g0]
    rcases S with ⟨y1, y2⟩ | ⟨y1, _⟩
    · rw [y2] at z; exact absurd z (by decide)
    · rw [nI_s, ← y1]
      exact outer n 1 _ (by omega) (Nat.le_refl 1) w0 (Nat.lt_succ_self _) P0
  · rw [A0.g0]
    rcases S with ⟨y1, y2⟩ | ⟨y1, i, hi, e, _⟩
    · rw [add_n0, ← y1]
      exact outer n 1 _ (by omega) (Nat.le_refl 1) w0 (Nat.lt_succ_self _) P0
    · rw [e] at z; exact absurd (nI_pos' (by omega)) z
/-! ways to a goal -/
def WL (R : Nat → Nat → Bool) (g : Nat) : Nat → Nat → Prop
  | 0, _ => False
  | k + 1, x => (k = 0 ∧ R x g = true) ∨ ∃ y, (1 ≤ y ∧ y < 18) ∧ ¬ y = g ∧ R x y = true ∧ WL R g k y
theorem WL_s {R : Nat → Nat → Bool} {g k x : Nat} : WL R g (k + 1) x ↔ (k = 0 ∧ R x g = true) ∨ ∃ y, (1 ≤ y ∧ y < 18) ∧ ¬ y = g ∧ R x y = true ∧ WL R g k y := Iff.rfl
/-- what steps answers -/
def stO (R : Nat → Nat → Bool) (g : Nat) (D : Nat → Nat) : Prop := (∀ x, D x ≤ 99) ∧ (∀ x, 1 ≤ x → x < 18 → D x < 99 → WL R g (D x) x) ∧ ∀ x k, 1 ≤ x → x < 18 → WL R g k x → k ≤ 18 → D x ≤ k
def J (R : Nat → Nat → Bool) (g r a b : Nat) (d : Nat → Nat) : Prop :=
  (∀ x, d x ≤ 99) ∧ (∀ x, 1 ≤ x → x < 18 → d x < 99 → WL R g (d x) x) ∧ (∀ x k, 1 ≤ x → x < 18 → WL R g k x → k ≤ (if x < a then r + 1 else r) → d x ≤ k) ∧
  ∀ y, 1 ≤ y → y < b → R a y = true → (y = g → d a ≤ 1) ∧ (¬ y = g → ∀ k, WL R g k y → k ≤ r → d a ≤ k + 1)
theorem J.in0 {R : Nat → Nat → Bool} {g r : Nat} {d : Nat → Nat} (h : J R g r 18 1 d) : J R g (r + 1) 1 1 d :=
  ⟨h.1, h.2.1, fun x k h1 h2 w hk => h.2.2.1 x k h1 h2 w (by rw [if_neg (by omega)] at hk; rw [if_pos h2]; exact hk), fun y a b => by omega⟩
theorem J.nx {R : Nat → Nat → Bool} {g r a : Nat} {d : Nat → Nat} (hg : 1 ≤ g ∧ g < 18) (h : J R g r a 18 d) : J R g r (a + 1) 1 d := by
  refine ⟨h.1, h.2.1, fun x k h1 h2 w hk => ?_, fun y a b => by omega⟩
  by_cases e : x = a
  · rw [e, if_pos (by omega)] at hk
    rw [e] at w ⊢
    cases k with
    | zero => exact w.elim
    | succ k =>
      rcases WL_s.mp w with ⟨k0, q⟩ | ⟨y, y1, y2, y3, y4⟩
      · have := (h.2.2.2 g hg.1 hg.2 q).1 rfl
        omega
      · exact (h.2.2.2 y y1.1 y1.2 y3).2 y2 k y4 (by omega)
  · refine h.2.2.1 x k h1 h2 w ?_
    by_cases l : x < a
    · rw [if_pos l]; rw [if_pos (by omega)] at hk; exact hk
    · rw [if_neg l]; rw [if_neg (by omega)] at hk; exact hk
/-- one more b: no way there, or the place a is lowered to z if z is lower -/
theorem J.skip {R : Nat → Nat → Bool} {g r a b : Nat} {d : Nat → Nat} (h : J R g r a b d) (e : ¬ R a b = true) : J R g r a (b + 1) d :=
  ⟨h.1, h.2.1, h.2.2.1, fun y y1 y2 q => h.2.2.2 y y1 (by
    by_cases z : y = b
    · rw [z] at q; exact absurd q e
    · omega) q⟩
theorem J.low {R : Nat → Nat → Bool} {g r a b z : Nat} {d d' : Nat → Nat} (h : J R g r a b d) (ha : 1 ≤ a ∧ a < 18) (hb : 1 ≤ b ∧ b < 18) (e : R a b = true) (hz : z = if b = g then 1 else d b + 1) (h1 : d' a = if z < d a then z else d a) (h2 : ∀ x, ¬ x = a → d' x = d x) : J R g r a (b + 1) d' := by
  have hle : ∀ x, d' x ≤ d x := fun x => by
    by_cases q : x = a
    · rw [q, h1]; split <;> omega
    · rw [h2 x q]; exact Nat.le_refl _
  have hz' : d' a ≤ z := by rw [h1]; split <;> omega
  refine ⟨fun x => Nat.le_trans (hle x) (h.1 x), fun x x1 x2 xl => ?_, fun x k x1 x2 w hk => Nat.le_trans (hle x) (h.2.2.1 x k x1 x2 w hk), fun y y1 y2 q => ?_⟩
  · by_cases q : x = a
    · rw [q] at xl ⊢
      by_cases l : z < d a
      · rw [if_pos l] at h1
        rw [h1]
        by_cases bg : b = g
        · rw [if_pos bg] at hz
          rw [hz]
          rw [bg] at e
          exact Or.inl ⟨rfl, e⟩
        · rw [if_neg bg] at hz
          rw [hz]
          have da := h.1 a
          exact Or.inr ⟨b, hb, bg, e, h.2.1 b hb.1 hb.2 (by omega)⟩
      · rw [if_neg l] at h1
        rw [h1] at xl ⊢
        exact h.2.1 a ha.1 ha.2 xl
    · rw [h2 x q] at xl ⊢
      exact h.2.1 x x1 x2 xl
  · by_cases yb : y = b
    · rw [yb]
      refine ⟨fun bg => ?_, fun bg k w hk => ?_⟩
      · rw [if_pos bg] at hz; omega
      · rw [if_neg bg] at hz
        have := h.2.2.1 b k hb.1 hb.2 w (by split <;> omega)
        omega
    · obtain ⟨u1, u2⟩ := h.2.2.2 y y1 (by omega) q
      have := hle a
      exact ⟨fun bg => by have := u1 bg; omega, fun bg k w hk => by have := u2 bg k w hk; omega⟩
/-- an array of 18 distances -/
def DA (h : sn_H) (p : Nat) (D : Nat → Nat) : Prop := hK h p = (1, 0, 18) ∧ ∀ x, x < 18 → hG h p x = nI (D x)
theorem Nw.DA {h h' : sn_H} (a : Nw h h') {p : Nat} {D : Nat → Nat} (A : DA h p D) (hp : p < hN h) : DA h' p D := ⟨(a.2 p hp).1.trans A.1, fun x hx => ((a.2 p hp).2.2 x).trans (A.2 x hx)⟩
theorem s_L_steps {h : sn_H} {g pe : Nat} {R : Nat → Nat → Bool} {Q : Option Value → sn_H → Prop} (E : BE h pe R) (hg : 1 ≤ g ∧ g < 18) (he : pe < hN h)
    (H : ∀ h' D, Nw h h' → hN h < hN h' → DA h' (hN h) D → stO R g D → Q (some (.ref (hN h))) h') :
    wpE 56 0 [some (.int (nI g)), some (.ref pe), none, none, none, none, none] [] h (0, 0) Q := by
  refine r_L_steps_0 (r_L_steps_4 ?_)
  have fin : ∀ h' d, Nw h h' → hN h < hN h' → hK h' (hN h) = (1, 0, 18) → (∀ x, x < 18 → hG h' (hN h) x = nI (d x)) → J R g 18 1 1 d → Q (some (.ref (hN h))) h' := fun h' d w wn k D j => by
    exact H h' d w wn ⟨k, D⟩ ⟨j.1, j.2.1, fun x k a b w hk => j.2.2.1 x k a b w (by rw [if_neg (by omega)]; exact hk)⟩
  have inner : ∀ r a, r < 18 → 1 ≤ a → a < 18 → (∀ h' d, Nw h h' → hN h < hN h' → hK h' (hN h) = (1, 0, 18) → (∀ x, x < 18 → hG h' (hN h) x = nI (d x)) → J R g r (a + 1) 1 d → wpE 56 35 [some (.int (nI g)), some (.ref pe), some (.ref (hN h)), some (.int (nI r)), some (.int (nI (a + 1))), none, none] [] h' (1, 18) Q) →
      ∀ m b h' d, b + m = 18 → 1 ≤ b → Nw h h' → hN h < hN h' → hK h' (hN h) = (1, 0, 18) → (∀ x, x < 18 → hG h' (hN h) x = nI (d x)) → J R g r a b d → wpE 56 45 [some (.int (nI g)), some (.ref pe), some (.ref (hN h)), some (.int (nI r)), some (.int (nI a)), some (.int (nI b)), none] [] h' (1, 18) Q := by
    intro r a hr a1 a2 K m
    induction m with
    | zero =>
      intro b h' d hb b1 w wn k D j
      have e : b = 18 := hb
      subst e
      have E' := w.BE E he
      refine r_L_steps_45 E'.1 k (fun _ => ?_) (fun z => absurd (Int32.le_refl _) z) (fun z => absurd (Int32.le_refl _) z) (fun z => absurd (Int32.le_refl _) z) (fun z => absurd (Int32.le_refl _) z) (fun z => absurd (Int32.le_refl _) z)
      rw [nI_s]
      exact K h' d w wn k D (j.nx hg)
    | succ m ih =>
      intro b h' d hb b1 w wn k D j
      have E' := w.BE E he
      have l : ¬ nI 18 ≤ nI b := nI_ge (by omega) (by omega)
      have ca : (nI a).toNatClampNeg = a := cl (by omega)
      have cb : (nI b).toNatClampNeg = b := cl (by omega)
      have da := j.1 a
      have db := j.1 b
      have bt' : ((hG h' pe (nI a).toNatClampNeg >>> (nI b &&& 31)) &&& nI 1) = 0 ↔ ¬ R a b = true := by
        rw [ca, bit_n0, E'.2 a b (by omega) (by omega)]
      have g85 : ∀ z, R a b = true → z = (if b = g then 1 else d b + 1) → wpE 56 85 [some (.int (nI g)), some (.ref pe), some (.ref (hN h)), some (.int (nI r)), some (.int (nI a)), some (.int (nI b)), some (.int (nI z))] [] h' (1, 18) Q := by
        intro z e hz
        have z100 : z ≤ 100 := by rw [hz]; split <;> omega
        have fin2 : ∀ (y : Nat) (d' : Nat → Nat), d' a = y → y = (if z < d a then z else d a) → (∀ x, ¬ x = a → d' x = d x) → wpE 56 45 [some (.int (nI g)), some (.ref pe), some (.ref (hN h)), some (.int (nI r)), some (.int (nI a)), some (.int (nI b + nI 1)), none] [] (setG h' (hN h) a (nI y)) (1, 18) Q := by
          intro y d' e1 e2 e3
          rw [nI_s]
          refine ih (b + 1) _ d' (by omega) (by omega) (w.sG (Nat.le_refl _)) wn k (fun x hx => ?_) (j.low ⟨a1, a2⟩ ⟨b1, by omega⟩ e hz (e1.trans e2) e3)
          by_cases q : x = a
          · rw [q, setG_s, e1]
          · rw [setG_n (fun z => q z.2), e3 x q]; exact D x hx
        refine r_L_steps_85 k (inb (by omega)) (fun q => ?_) (fun q => ?_)
        · rw [ca, D a a2, nI_leI (by omega) (by omega)] at q
          rw [ca, D a a2]
          exact fin2 (d a) d rfl (by rw [if_neg (by omega)]) (fun _ _ => rfl)
        · rw [ca, D a a2, nI_leI (by omega) (by omega)] at q
          rw [ca]
          exact fin2 z (fun x => if x = a then z else d x) (if_pos rfl) (by rw [if_pos (by omega)]) (fun x hx => if_neg hx)
      refine r_L_steps_45 E'.1 k (fun z => absurd z l) (fun _ => inb (by omega)) (fun _ _ _ => inb (by omega)) (fun _ z y => ?_) (fun _ z y => ?_) (fun _ z => ?_)
      · rw [bt', Classical.not_not] at z
        rw [nI_eq (by omega) (by omega)] at y
        rw [cb, D b (by omega), nI_s]
        exact g85 (d b + 1) z (by rw [if_neg y])
      · rw [bt', Classical.not_not] at z
        rw [nI_eq (by omega) (by omega)] at y
        exact g85 1 z (by rw [if_pos y])
      · rw [bt'] at z
        rw [nI_s]
        exact ih (b + 1) h' d (by omega) (by omega) w wn k D (j.skip z)
  have middle : ∀ r, r < 18 → (∀ h' d, Nw h h' → hN h < hN h' → hK h' (hN h) = (1, 0, 18) → (∀ x, x < 18 → hG h' (hN h) x = nI (d x)) → J R g (r + 1) 1 1 d → wpE 56 26 [some (.int (nI g)), some (.ref pe), some (.ref (hN h)), some (.int (nI (r + 1))), none, none, none] [] h' (1, 18) Q) →
      ∀ m a h' d, a + m = 18 → 1 ≤ a → Nw h h' → hN h < hN h' → hK h' (hN h) = (1, 0, 18) → (∀ x, x < 18 → hG h' (hN h) x = nI (d x)) → J R g r a 1 d → wpE 56 35 [some (.int (nI g)), some (.ref pe), some (.ref (hN h)), some (.int (nI r)), some (.int (nI a)), none, none] [] h' (1, 18) Q := by
    intro r hr K m
    induction m with
    | zero =>
      intro a h' d ha a1 w wn k D j
      have e : a = 18 := ha
      subst e
      refine r_L_steps_35 (fun _ => ?_) (fun z => absurd (Int32.le_refl _) z)
      rw [nI_s]
      exact K h' d w wn k D j.in0
    | succ m ih =>
      intro a h' d ha a1 w wn k D j
      refine r_L_steps_35 (fun z => absurd z (nI_ge (by omega) (by omega))) (fun _ => ?_)
      exact inner r a hr a1 (by omega) (fun h2 d2 w2 wn2 k2 D2 j2 => ih (a + 1) h2 d2 (by omega) (by omega) w2 wn2 k2 D2 j2) 17 1 h' d rfl (Nat.le_refl 1) w wn k D j
  have outer : ∀ m r h' d, r + m = 18 → Nw h h' → hN h < hN h' → hK h' (hN h) = (1, 0, 18) → (∀ x, x < 18 → hG h' (hN h) x = nI (d x)) → J R g r 1 1 d → wpE 56 26 [some (.int (nI g)), some (.ref pe), some (.ref (hN h)), some (.int (nI r)), none, none, none] [] h' (1, 18) Q := by
    intro m
    induction m with
    | zero =>
      intro r h' d hr w wn k D j
      have e : r = 18 := hr
      subst e
      exact r_L_steps_26 (fun _ => fin h' d w wn k D j) (fun z => absurd (Int32.le_refl _) z)
    | succ m ih =>
      intro r h' d hr w wn k D j
      refine r_L_steps_26 (fun z => absurd z (nI_ge (by omega) (by omega))) (fun _ => ?_)
      exact middle r (by omega) (fun h2 d2 w2 wn2 k2 D2 j2 => ih (r + 1) h2 d2 (by omega) w2 wn2 k2 D2 j2) 17 1 h' d rfl (Nat.le_refl 1) w wn k D j
  suffices ∀ m i h', i + m = 18 → Nw h h' → hN h < hN h' → hK h' (hN h) = (1, 0, 18) → (∀ x, x < i → hG h' (hN h) x = nI 99) → wpE 56 7 [some (.int (nI g)), some (.ref pe), some (.ref (hN h)), some (.int (nI i)), none, none, none] [] h' (1, 18) Q from
    this 18 0 _ rfl (Nw.al h _) (Nat.lt_succ_self _) (al_K h _) (fun x hx => absurd hx (Nat.not_lt_zero x))
  intro m
  induction m with
  | zero =>
    intro i h' hi w wn k D
    have e : i = 18 := hi
    subst e
    refine r_L_steps_7 k (fun _ => ?_) (fun z => absurd (Int32.le_refl _) z) (fun z => absurd (Int32.le_refl _) z)
    refine outer 18 0 h' (fun _ => 99) rfl w wn k D ⟨fun _ => Nat.le_refl _, fun x _ _ z => absurd z (Nat.lt_irrefl 99), fun x k x1 x2 q hk => ?_, fun y a b => by omega⟩
    rw [if_neg (by omega)] at hk
    have e : k = 0 := by omega
    rw [e] at q
    exact q.elim
  | succ m ih =>
    intro i h' hi w wn k D
    refine r_L_steps_7 k (fun z => absurd z (nI_ge (by omega) (by omega))) (fun _ => inb (by omega)) (fun _ => ?_)
    rw [nI_s, cl (by omega)]
    refine ih (i + 1) _ (by omega) (w.sG (Nat.le_refl _)) wn k (fun x hx => ?_)
    by_cases q : x = i
    · rw [q, setG_s]
    · rw [setG_n (fun z => q z.2)]; exact D x (by omega)
