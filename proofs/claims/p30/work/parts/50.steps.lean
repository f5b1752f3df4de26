/-! ===== each change keeps the relation of class and law ===== -/
def ua (f : Nat → Int32) (i : Nat) (x : Int32) (j : Nat) : Int32 := if j = i then x else f j
theorem ua_s {f : Nat → Int32} {i : Nat} {x : Int32} : ua f i x i = x := if_pos rfl
theorem ua_n {f : Nat → Int32} {i j : Nat} {x : Int32} (h : ¬ j = i) : ua f i x j = f j := if_neg h
theorem cpV_y {σ : sn_V} {a s d t n k : Nat} (h : t ≤ k ∧ k < t + n) : cpV σ a s d t n d k = σ a (s + (k - t)) := if_pos ⟨rfl, h⟩
theorem m_put : ∀ w, w < 16 → ∀ i, i < 4 → ∃ w', w' < 16 ∧ nI w ||| (nI 1 <<< (nI i &&& 31)) = nI w' := by decide +kernel
theorem m_clr : ∀ w, w < 16 → ∀ i, i < 4 → ∃ w', w' < 16 ∧ nI w &&& ((nI 1 <<< (nI i &&& 31)) ^^^ -(nI 1)) = nI w' := by decide +kernel
theorem SR.cg {c c' i : Nat} {σ σ' : sn_V} {cc cc' v v' t t' : Nat → Int32} (S : SR c σ cc v t i) (hc : c ≤ c') (hb : bitP (σ' 0 3) i ↔ bitP (σ 0 3) i) (h6 : σ' 6 i = σ 6 i) (h7 : σ' 7 i = σ 7 i) (h8 : σ' 8 i = σ 8 i) (h9 : ∀ k, k < 4 → σ' 9 (i * 12 + k) = σ 9 (i * 12 + k)) (h10 : ∀ k, k < 4 → σ' 10 (i * 12 + k) = σ 10 (i * 12 + k))
    (t0 : ∀ w, w < 3 → t' (3 * i + w) = t (3 * i + w)) (t1 : ∀ k, k < 4 → t' (12 + 4 * i + k) = t (12 + 4 * i + k)) (hcc : ∀ m, 1 ≤ m → m ≤ c → cc' (32 + m) = cc (32 + m)) (hv : ∀ m k, 1 ≤ m → m ≤ c → k < 4 → v' (4 * m + k) = v (4 * m + k)) : SR c' σ' cc' v' t' i := by
  have t00 : t' (3 * i) = t (3 * i) := t0 0 (by omega)
  rcases S with ⟨a, b⟩ | ⟨a, s, r, w, ⟨b1, b2, b3⟩, ⟨d1, d2⟩, ⟨e1, e2⟩, ⟨f1, f2⟩, g⟩
  · exact Or.inl ⟨fun z => a (hb.mp z), t00.trans b⟩
  · refine Or.inr ⟨hb.mpr a, s, r, w, ⟨by omega, b2, b3⟩, ⟨t00.trans d1, h6.trans d2⟩, ⟨(t0 1 (by omega)).trans e1, h7.trans e2⟩, ⟨(t0 2 (by omega)).trans f1, h8.trans f2⟩, fun k hk => ?_⟩
    obtain ⟨g1, g2⟩ := g k hk
    rw [h9 k hk, h10 k hk, g1, g2, t1 k hk, verN_cg s (fun m a b => hcc m a (by omega)), valN_cg (cc := cc) (v := v) (fun m a b => hcc m a (by omega)) (fun m a b => hv m k a (by omega) hk)]
    exact ⟨rfl, rfl⟩
theorem CR.cg {n : Nat} {σ σ' : sn_V} {cc cc' : Nat → Int32} (C : CR σ cc n) (h6 : σ' 6 (7 + n) = σ 6 (7 + n)) (h7 : σ' 7 (7 + n) = σ 7 (7 + n)) (h8 : σ' 8 (7 + n) = σ 8 (7 + n)) (h9 : ∀ k, k < 4 → σ' 9 ((7 + n) * 12 + k) = σ 9 ((7 + n) * 12 + k)) (e0 : cc' n = cc n) (e1 : cc' (16 + n) = cc (16 + n)) (e2 : ∀ m, 1 ≤ m → m ≤ n → cc' (32 + m) = cc (32 + m)) (hn : 1 ≤ n) : CR σ' cc' n := by
  obtain ⟨s, r, w, ⟨b1, b2, b3⟩, ⟨d1, d2⟩, ⟨f1, f2⟩, ⟨g1, g2⟩, g⟩ := C
  refine ⟨s, r, w, ⟨b1, b2, b3⟩, ⟨e0.trans d1, h6.trans d2⟩, ⟨e1.trans f1, h7.trans f2⟩, ⟨(e2 n hn (Nat.le_refl n)).trans g1, h8.trans g2⟩, fun k hk => ?_⟩
  rw [h9 k hk, g k hk, verN_cg s (fun m a b => e2 m a (by omega))]
/-- only slots and counts change -/
theorem PR.chg {c : Nat} {σ σ' : sn_V} {q q' cc v t t' : Nat → Int32} (R : PR c σ q cc v t) (e0 : σ' 0 0 = σ 0 0) (e1 : σ' 0 1 = σ 0 1) (e2 : q' 5 = σ' 0 2) (e3 : ∀ r, r < 3 → q' (2 + r) = σ' 1 (r + 1)) (ej : ∀ j k, 2 ≤ j → j ≤ 5 → σ' j k = σ j k) (eq : ∀ x, x < 2 ∨ 6 ≤ x → q' x = q x)
    (er : ∀ j n, 6 ≤ j → j ≤ 8 → 1 ≤ n → σ' j (7 + n) = σ j (7 + n)) (e9 : ∀ n k, 1 ≤ n → k < 4 → σ' 9 ((7 + n) * 12 + k) = σ 9 ((7 + n) * 12 + k)) (eo : ∃ w, w < 16 ∧ σ' 0 3 = nI w) (es : ∀ i, i < 4 → SR c σ' cc v t' i) : PR c σ' q' cc v t' := by
  obtain ⟨r1, ⟨r2, r2'⟩, ⟨p, p1, p2, p3⟩, _, r5, r6, _, _, r9⟩ := R
  refine ⟨r1, ⟨e1.trans r2, (eq 0 (by omega)).trans r2'⟩, ⟨p, p1, e0.trans p2, (eq 1 (by omega)).trans p3⟩, ⟨e3, e2⟩, fun j hj => ?_, fun k hk => ?_, eo, es, fun n a b => ?_⟩
  · rw [eq _ (by omega), eq _ (by omega), ej 2 j (by omega) (by omega), ej 3 j (by omega) (by omega)]
    exact r5 j hj
  · rw [ej 4 k (by omega) (by omega), ej 5 k (by omega) (by omega)]
    exact r6 k hk
  · exact (r9 n a b).cg (er 6 n (by omega) (by omega) a) (er 7 n (by omega) (by omega) a) (er 8 n (by omega) (by omega) a) (fun k hk => e9 n k a hk) rfl rfl (fun _ _ _ => rfl) a
theorem PR.cnt {c : Nat} {σ : sn_V} {q cc v t : Nat → Int32} (R : PR c σ q cc v t) : (∀ r, r < 3 → q (2 + r) = σ 1 (r + 1)) ∧ q 5 = σ 0 2 := R.2.2.2.1
theorem pr_begin {c i : Nat} {σ : sn_V} {q cc v t : Nat → Int32} (R : PR c σ q cc v t) (hi : i < 4) : PR c (fStart σ i) q cc v (ua (ua (ua t (3 * i) (nI c)) (3 * i + 1) (nI 0)) (3 * i + 2) (nI 0)) := by
  have c15 := R.c15
  have g : ∀ j k, ¬ (j = 0 ∧ k = 3) → ¬ ((j = 6 ∨ j = 7 ∨ j = 8) ∧ k = i) → ¬ (j = 9 ∧ i * 12 ≤ k ∧ k < i * 12 + 12) → ¬ (j = 10 ∧ i * 12 ≤ k ∧ k < i * 12 + 12) → fStart σ i j k = σ j k := fun j k h1 h2 h3 h4 => by
    unfold fStart
    rw [cpV_n h4, cpV_n h3, up_n (by omega), up_n (by omega), up_n (by omega), up_n h1]
  have o3 : fStart σ i 0 3 = σ 0 3 ||| (nI 1 <<< (nI i &&& 31)) := by
    unfold fStart
    rw [cpV_n (by omega), cpV_n (by omega), up_n (by omega), up_n (by omega), up_n (by omega), up_s]
  obtain ⟨w, w1, w2⟩ := R.op
  have s6 : fStart σ i 6 i = nI c := by unfold fStart; rw [cpV_n (by omega), cpV_n (by omega), up_n (by omega), up_n (by omega), up_s]; exact R.x
  have s7 : fStart σ i 7 i = nI 0 := by unfold fStart; rw [cpV_n (by omega), cpV_n (by omega), up_n (by omega), up_s]
  have s8 : fStart σ i 8 i = nI 0 := by unfold fStart; rw [cpV_n (by omega), cpV_n (by omega), up_s]
  have s9 : ∀ k, k < 4 → fStart σ i 9 (i * 12 + k) = σ 5 k := fun k hk => by
    unfold fStart
    rw [cpV_n (by omega), cpV_y (by omega), up_n (by omega), up_n (by omega), up_n (by omega), up_n (by omega)]
    congr 1; omega
  have s10 : ∀ k, k < 4 → fStart σ i 10 (i * 12 + k) = σ 4 k := fun k hk => by
    unfold fStart
    rw [cpV_y (by omega), cpV_n (by omega), up_n (by omega), up_n (by omega), up_n (by omega), up_n (by omega)]
    congr 1; omega
  have cn := R.cnt
  refine R.chg (g 0 0 (by omega) (by omega) (by omega) (by omega)) (g 0 1 (by omega) (by omega) (by omega) (by omega)) (by rw [g 0 2 (by omega) (by omega) (by omega) (by omega)]; exact cn.2) (fun r hr => by rw [g 1 _ (by omega) (by omega) (by omega) (by omega)]; exact cn.1 r hr) (fun j k a b => g j k (by omega) (by omega) (by omega) (by omega)) (fun _ _ => rfl) (fun j n a b d => g j _ (by omega) (by omega) (by omega) (by omega)) (fun n k a b => g 9 _ (by omega) (by omega) (by omega) (by omega)) ?_ (fun i' hi' => ?_)
  · rw [o3, w2]; exact m_put w w1 i hi
  · by_cases e : i' = i
    · subst e
      refine Or.inr ⟨?_, c, 0, 0, ⟨Nat.le_refl c, by omega, by omega⟩, ⟨?_, s6⟩, ⟨?_, s7⟩, ⟨ua_s, s8⟩, fun k hk => ⟨?_, ?_⟩⟩
      · rw [o3, bitP_put (by omega) (by omega)]; exact Or.inr rfl
      · rw [ua_n (by omega), ua_n (by omega), ua_s]
      · rw [ua_n (by omega), ua_s]
      · rw [s9 k hk]; exact (R.val hk).2
      · rw [s10 k hk, if_neg (bitP_n0 (by omega))]; exact (R.val hk).1
    · refine (R.slot hi').cg (Nat.le_refl c) ?_ (g 6 i' (by omega) (by omega) (by omega) (by omega)) (g 7 i' (by omega) (by omega) (by omega) (by omega)) (g 8 i' (by omega) (by omega) (by omega) (by omega)) (fun k hk => g 9 _ (by omega) (by omega) (by omega) (by omega)) (fun k hk => g 10 _ (by omega) (by omega) (by omega) (by omega)) (fun w hw => ?_) (fun k hk => ?_) (fun _ _ _ => rfl) (fun _ _ _ _ _ => rfl)
      · rw [o3, bitP_put (by omega) (by omega)]
        exact ⟨fun z => z.elim id (fun y => absurd y e), Or.inl⟩
      · rw [ua_n (by omega), ua_n (by omega), ua_n (by omega)]
      · rw [ua_n (by omega), ua_n (by omega), ua_n (by omega)]
theorem pr_read {c i k : Nat} {σ : sn_V} {q cc v t : Nat → Int32} (R : PR c σ q cc v t) (hi : i < 4) (hk : k < 4) (ho : bitP (σ 0 3) i) : PR c (fRead σ i k) q cc v (ua t (3 * i + 1) (t (3 * i + 1) ||| (nI 1 <<< (nI k &&& 31)))) := by
  have g : ∀ j k', ¬ (j = 7 ∧ k' = i) → fRead σ i k j k' = σ j k' := fun j k' h => up_n h
  have cn := R.cnt
  refine R.chg (g 0 0 (by omega)) (g 0 1 (by omega)) (by rw [g 0 2 (by omega)]; exact cn.2) (fun r hr => by rw [g 1 _ (by omega)]; exact cn.1 r hr) (fun j k a b => g j k (by omega)) (fun _ _ => rfl) (fun j n a b d => g j _ (by omega)) (fun n k a b => g 9 _ (by omega)) (by rw [g 0 3 (by omega)]; exact R.op) (fun i' hi' => ?_)
  by_cases e : i' = i
  · subst e
    obtain ⟨s, r, w, ⟨b1, b2, b3⟩, ⟨d1, d2⟩, ⟨e1, e2⟩, ⟨f1, f2⟩, gg⟩ := R.up hi ho
    obtain ⟨r', r1, r2⟩ := m_put r b2 k hk
    refine Or.inr ⟨by rw [g 0 3 (by omega)]; exact ho, s, r', w, ⟨b1, r1, b3⟩, ⟨by rw [ua_n (by omega)]; exact d1, by rw [g 6 i' (by omega)]; exact d2⟩, ⟨by rw [ua_s, e1, r2], ?_⟩, ⟨by rw [ua_n (by omega)]; exact f1, by rw [g 8 i' (by omega)]; exact f2⟩, fun k hk => ?_⟩
    · unfold fRead; rw [up_s, e2, r2]
    · rw [g 9 _ (by omega), g 10 _ (by omega), ua_n (by omega)]
      exact gg k hk
  · exact (R.slot hi').cg (Nat.le_refl c) (by rw [g 0 3 (by omega)]) (g 6 i' (by omega)) (g 7 i' (by omega)) (g 8 i' (by omega)) (fun k hk => g 9 _ (by omega)) (fun k hk => g 10 _ (by omega)) (fun w hw => ua_n (by omega)) (fun k hk => ua_n (by omega)) (fun _ _ _ => rfl) (fun _ _ _ _ _ => rfl)
theorem pr_write {c i k : Nat} {x : Int32} {σ : sn_V} {q cc v t : Nat → Int32} (R : PR c σ q cc v t) (hi : i < 4) (hk : k < 4) (ho : bitP (σ 0 3) i) : PR c (fWrite σ i k x) q cc v (ua (ua t (3 * i + 2) (t (3 * i + 2) ||| (nI 1 <<< (nI k &&& 31)))) (12 + 4 * i + k) x) := by
  have g : ∀ j k', ¬ (j = 8 ∧ k' = i) → ¬ (j = 10 ∧ k' = i * 12 + k) → fWrite σ i k x j k' = σ j k' := fun j k' h h2 => by unfold fWrite; rw [up_n h2, up_n h]
  have cn := R.cnt
  refine R.chg (g 0 0 (by omega) (by omega)) (g 0 1 (by omega) (by omega)) (by rw [g 0 2 (by omega) (by omega)]; exact cn.2) (fun r hr => by rw [g 1 _ (by omega) (by omega)]; exact cn.1 r hr) (fun j k a b => g j k (by omega) (by omega)) (fun _ _ => rfl) (fun j n a b d => g j _ (by omega) (by omega)) (fun n k a b => g 9 _ (by omega) (by omega)) (by rw [g 0 3 (by omega) (by omega)]; exact R.op) (fun i' hi' => ?_)
  by_cases e : i' = i
  · subst e
    obtain ⟨s, r, w, ⟨b1, b2, b3⟩, ⟨d1, d2⟩, ⟨e1, e2⟩, ⟨f1, f2⟩, gg⟩ := R.up hi ho
    obtain ⟨w', w1, w2⟩ := m_put w b3 k hk
    refine Or.inr ⟨by rw [g 0 3 (by omega) (by omega)]; exact ho, s, r, w', ⟨b1, b2, w1⟩, ⟨by rw [ua_n (by omega), ua_n (by omega)]; exact d1, by rw [g 6 i' (by omega) (by omega)]; exact d2⟩, ⟨by rw [ua_n (by omega), ua_n (by omega)]; exact e1, by rw [g 7 i' (by omega) (by omega)]; exact e2⟩, ⟨by rw [ua_n (by omega), ua_s, f1, w2], ?_⟩, fun k' hk' => ?_⟩
    · unfold fWrite; rw [up_n (by omega), up_s, f2, w2]
    · obtain ⟨g1, g2⟩ := gg k' hk'
      refine ⟨by rw [g 9 _ (by omega) (by omega)]; exact g1, ?_⟩
      rw [← w2]
      by_cases ek : k' = k
      · subst ek
        rw [if_pos ((bitP_put (by omega) (by omega)).mpr (Or.inr rfl)), ua_s]
        unfold fWrite
        rw [up_s]
      · rw [g 10 _ (by omega) (by omega), g2, ua_n (by omega), ua_n (by omega)]
        by_cases bk : bitP (nI w) k'
        · rw [if_pos bk, if_pos ((bitP_put (by omega) (by omega)).mpr (Or.inl bk))]
        · rw [if_neg bk, if_neg (fun z => ((bitP_put (by omega) (by omega)).mp z).elim bk ek)]
  · refine (R.slot hi').cg (Nat.le_refl c) (by rw [g 0 3 (by omega) (by omega)]) (g 6 i' (by omega) (by omega)) (g 7 i' (by omega) (by omega)) (g 8 i' (by omega) (by omega)) (fun k hk => g 9 _ (by omega) (by omega)) (fun k hk => g 10 _ (by omega) (by omega)) (fun w hw => ?_) (fun k hk => ?_) (fun _ _ _ => rfl) (fun _ _ _ _ _ => rfl)
    · rw [ua_n (by omega), ua_n (by omega)]
    · rw [ua_n (by omega), ua_n (by omega)]
/-- a slot that is freed -/
theorem SR.free {c i i' : Nat} {σ σ' : sn_V} {cc v t : Nat → Int32} (S : SR c σ cc v t i') (hi : i < 4) (hi' : i' < 4) (h3 : σ' 0 3 = σ 0 3 &&& ((nI 1 <<< (nI i &&& 31)) ^^^ -(nI 1))) (hj : ∀ j k, 6 ≤ j → k < 48 → (j ≤ 8 → k < 4) → σ' j k = σ j k) : SR c σ' cc v (ua t (3 * i) (-(nI 1))) i' := by
  have hb : bitP (σ' 0 3) i' ↔ bitP (σ 0 3) i' ∧ i' ≠ i := by rw [h3]; exact bitP_clr (by omega) (by omega)
  by_cases e : i' = i
  · subst e
    exact Or.inl ⟨fun z => (hb.mp z).2 rfl, ua_s⟩
  · refine S.cg (Nat.le_refl c) ⟨fun z => (hb.mp z).1, fun z => hb.mpr ⟨z, e⟩⟩ (hj 6 i' (by omega) (by omega) (by omega)) (hj 7 i' (by omega) (by omega) (by omega)) (hj 8 i' (by omega) (by omega) (by omega)) (fun k hk => hj 9 _ (by omega) (by omega) (by omega)) (fun k hk => hj 10 _ (by omega) (by omega) (by omega)) (fun w hw => ua_n (by omega)) (fun k hk => ua_n (by omega)) (fun _ _ _ => rfl) (fun _ _ _ _ _ => rfl)
theorem pr_abort {c i : Nat} {σ : sn_V} {q cc v t : Nat → Int32} (R : PR c σ q cc v t) (hi : i < 4) : PR c (fGive σ i) (ua q 5 (q 5 + nI 1)) cc v (ua t (3 * i) (-(nI 1))) := by
  have g : ∀ j k', ¬ (j = 0 ∧ k' = 3) → ¬ (j = 0 ∧ k' = 2) → fGive σ i j k' = σ j k' := fun j k' h h2 => by unfold fGive fFree; rw [up_n h2, up_n h]
  have o3 : fGive σ i 0 3 = σ 0 3 &&& ((nI 1 <<< (nI i &&& 31)) ^^^ -(nI 1)) := by unfold fGive fFree; rw [up_n (by omega), up_s]
  have cn := R.cnt
  obtain ⟨w, w1, w2⟩ := R.op
  refine R.chg (g 0 0 (by omega) (by omega)) (g 0 1 (by omega) (by omega)) ?_ (fun r hr => by rw [g 1 _ (by omega) (by omega), ua_n (by omega)]; exact cn.1 r hr) (fun j k a b => g j k (by omega) (by omega)) (fun x hx => ua_n (by omega)) (fun j n a b d => g j _ (by omega) (by omega)) (fun n k a b => g 9 _ (by omega) (by omega)) ?_ (fun i' hi' => (R.slot hi').free hi hi' o3 (fun j k a _ _ => g j k (by omega) (by omega)))
  · rw [ua_s, cn.2]; unfold fGive; rw [up_s]
  · rw [o3, w2]; exact m_clr w w1 i hi
theorem pr_refuse {c i y : Nat} {σ : sn_V} {q cc v t : Nat → Int32} (R : PR c σ q cc v t) (hi : i < 4) (y0 : 0 < y) (y4 : y < 4) : PR c (fRef σ i y) (ua q (1 + y) (q (1 + y) + nI 1)) cc v (ua t (3 * i) (-(nI 1))) := by
  have g : ∀ j k', ¬ (j = 0 ∧ k' = 3) → ¬ (j = 1 ∧ k' = y) → fRef σ i y j k' = σ j k' := fun j k' h h2 => by unfold fRef fFree; rw [up_n h2, up_n h]
  have o3 : fRef σ i y 0 3 = σ 0 3 &&& ((nI 1 <<< (nI i &&& 31)) ^^^ -(nI 1)) := by unfold fRef fFree; rw [up_n (by omega), up_s]
  have cn := R.cnt
  obtain ⟨w, w1, w2⟩ := R.op
  refine R.chg (g 0 0 (by omega) (by omega)) (g 0 1 (by omega) (by omega)) ?_ (fun r hr => ?_) (fun j k a b => g j k (by omega) (by omega)) (fun x hx => ua_n (by omega)) (fun j n a b d => g j _ (by omega) (by omega)) (fun n k a b => g 9 _ (by omega) (by omega)) ?_ (fun i' hi' => (R.slot hi').free hi hi' o3 (fun j k a _ _ => g j k (by omega) (by omega)))
  · rw [ua_n (by omega), g 0 2 (by omega) (by omega)]; exact cn.2
  · by_cases e : r + 1 = y
    · have e1 : 1 + y = 2 + r := by omega
      have s : fRef σ i y 1 (r + 1) = σ 1 (r + 1) + nI 1 := by rw [e]; unfold fRef fFree; rw [up_s, up_n (by omega)]
      rw [e1, ua_s, s, cn.1 r hr]
    · rw [ua_n (by omega), g 1 _ (by omega) (by omega)]; exact cn.1 r hr
  · rw [o3, w2]; exact m_clr w w1 i hi
theorem pr_pol {c p : Nat} {σ : sn_V} {q cc v t : Nat → Int32} (R : PR c σ q cc v t) (hp : p < 3) : PR c (up σ 0 0 (nI p)) (ua q 1 (nI p)) cc v t := by
  obtain ⟨r1, ⟨r2, r2'⟩, _, r4, r5, r6, r7, r8, r9⟩ := R
  have g : ∀ j k', ¬ (j = 0 ∧ k' = 0) → up σ 0 0 (nI p) j k' = σ j k' := fun j k' h => up_n h
  refine ⟨r1, ⟨by rw [g 0 1 (by omega)]; exact r2, by rw [ua_n (by omega)]; exact r2'⟩, ⟨p, hp, up_s, ua_s⟩, ⟨fun r hr => by rw [g 1 _ (by omega), ua_n (by omega)]; exact r4.1 r hr, by rw [g 0 2 (by omega), ua_n (by omega)]; exact r4.2⟩, fun j hj => ?_, fun k hk => ?_, by rw [g 0 3 (by omega)]; exact r7, fun i hi => ?_, fun n a b => ?_⟩
  · rw [ua_n (by omega), ua_n (by omega), g 2 _ (by omega), g 3 _ (by omega)]; exact r5 j hj
  · rw [g 4 _ (by omega), g 5 _ (by omega)]; exact r6 k hk
  · exact (r8 i hi).cg (Nat.le_refl c) (by rw [g 0 3 (by omega)]) (g 6 i (by omega)) (g 7 i (by omega)) (g 8 i (by omega)) (fun k hk => g 9 _ (by omega)) (fun k hk => g 10 _ (by omega)) (fun w hw => rfl) (fun k hk => rfl) (fun _ _ _ => rfl) (fun _ _ _ _ _ => rfl)
  · exact (r9 n a b).cg (g 6 _ (by omega)) (g 7 _ (by omega)) (g 8 _ (by omega)) (fun k hk => g 9 _ (by omega)) rfl rfl (fun _ _ _ => rfl) a
theorem pr_con {c j m : Nat} {y : Int32} {σ : sn_V} {q cc v t : Nat → Int32} (R : PR c σ q cc v t) (hj : j < 3) (hm : m < 16) : PR c (up (up σ 2 j (nI m)) 3 j y) (ua (ua q (6 + 2 * j) (nI m)) (7 + 2 * j) y) cc v t := by
  obtain ⟨r1, ⟨r2, r2'⟩, ⟨p, p1, p2, p3⟩, r4, r5, r6, r7, r8, r9⟩ := R
  have g : ∀ j' k', ¬ (j' = 2 ∧ k' = j) → ¬ (j' = 3 ∧ k' = j) → up (up σ 2 j (nI m)) 3 j y j' k' = σ j' k' := fun j' k' h h2 => by rw [up_n h2, up_n h]
  have gq : ∀ x, ¬ x = 6 + 2 * j → ¬ x = 7 + 2 * j → ua (ua q (6 + 2 * j) (nI m)) (7 + 2 * j) y x = q x := fun x h h2 => by rw [ua_n h2, ua_n h]
  refine ⟨r1, ⟨by rw [g 0 1 (by omega) (by omega)]; exact r2, by rw [gq 0 (by omega) (by omega)]; exact r2'⟩, ⟨p, p1, by rw [g 0 0 (by omega) (by omega)]; exact p2, by rw [gq 1 (by omega) (by omega)]; exact p3⟩, ⟨fun r hr => by rw [g 1 _ (by omega) (by omega), gq _ (by omega) (by omega)]; exact r4.1 r hr, by rw [g 0 2 (by omega) (by omega), gq _ (by omega) (by omega)]; exact r4.2⟩, fun j' hj' => ?_, fun k hk => ?_, by rw [g 0 3 (by omega) (by omega)]; exact r7, fun i hi => ?_, fun n a b => ?_⟩
  · by_cases e : j' = j
    · subst e
      exact ⟨⟨m, hm, by rw [ua_n (by omega), ua_s], by rw [up_n (by omega), up_s]⟩, by rw [ua_s, up_s]⟩
    · rw [gq _ (by omega) (by omega), gq _ (by omega) (by omega), g 2 _ (by omega) (by omega), g 3 _ (by omega) (by omega)]; exact r5 j' hj'
  · rw [g 4 _ (by omega) (by omega), g 5 _ (by omega) (by omega)]; exact r6 k hk
  · exact (r8 i hi).cg (Nat.le_refl c) (by rw [g 0 3 (by omega) (by omega)]) (g 6 i (by omega) (by omega)) (g 7 i (by omega) (by omega)) (g 8 i (by omega) (by omega)) (fun k hk => g 9 _ (by omega) (by omega)) (fun k hk => g 10 _ (by omega) (by omega)) (fun w hw => rfl) (fun k hk => rfl) (fun _ _ _ => rfl) (fun _ _ _ _ _ => rfl)
  · exact (r9 n a b).cg (g 6 _ (by omega) (by omega)) (g 7 _ (by omega) (by omega)) (g 8 _ (by omega) (by omega)) (fun k hk => g 9 _ (by omega) (by omega)) rfl rfl (fun _ _ _ => rfl) a
/-- a commit is kept -/
theorem pr_keep {c i : Nat} {σ : sn_V} {q cc v t cc' v' : Nat → Int32} (R : PR c σ q cc v t) (hc : c ≤ 14) (hi : i < 4) (ho : bitP (σ 0 3) i) (k1 : ∀ w, w < 3 → cc' (16 * w + (c + 1)) = t (3 * i + w)) (k2 : ∀ x, (∀ w, w < 3 → ¬ x = 16 * w + (c + 1)) → cc' x = cc x)
    (k3 : ∀ k, k < 4 → v' (4 * (c + 1) + k) = t (12 + 4 * i + k)) (k4 : ∀ x, (∀ k, k < 4 → ¬ x = 4 * (c + 1) + k) → v' x = v x) : PR (c + 1) (fKeep σ i (8 + c % 16)) (ua q 0 (nI (c + 1))) cc' v' (ua t (3 * i) (-(nI 1))) := by
  have er : 8 + c % 16 = 7 + (c + 1) := by omega
  rw [er]
  obtain ⟨s, r, w, ⟨b1, b2, b3⟩, ⟨d1, d2⟩, ⟨e1, e2⟩, ⟨f1, f2⟩, gg⟩ := R.up hi ho
  have cn := R.cnt
  obtain ⟨wo, wo1, wo2⟩ := R.op
  obtain ⟨p, p1, p2, p3⟩ := R.pol
  -- the class's state, place by place
  have g1 : ∀ j k, ¬ (j = 0 ∧ k = 3) → ¬ (j = 0 ∧ k = 1) → ¬ ((j = 6 ∨ j = 7 ∨ j = 8) ∧ k = 7 + (c + 1)) → ¬ (j = 9 ∧ (7 + (c + 1)) * 12 ≤ k ∧ k < (7 + (c + 1)) * 12 + 12) → fKeep1 σ i (7 + (c + 1)) j k = σ j k := fun j k h1 h2 h3 h4 => by
    unfold fKeep1 fKeep0
    rw [cpV_n h4, up_n (by omega), up_n (by omega), up_n (by omega), up_n h2, up_n h1]
  have g : ∀ j k, ¬ j = 4 → ¬ j = 5 → ¬ (j = 0 ∧ k = 3) → ¬ (j = 0 ∧ k = 1) → ¬ ((j = 6 ∨ j = 7 ∨ j = 8) ∧ k = 7 + (c + 1)) → ¬ (j = 9 ∧ (7 + (c + 1)) * 12 ≤ k ∧ k < (7 + (c + 1)) * 12 + 12) → fKeep σ i (7 + (c + 1)) j k = σ j k := fun j k h4 h5 a1 a2 a3 a4 => by
    unfold fKeep
    rw [fKC_n h4 h5]
    exact g1 j k a1 a2 a3 a4
  have o3 : fKeep σ i (7 + (c + 1)) 0 3 = σ 0 3 &&& ((nI 1 <<< (nI i &&& 31)) ^^^ -(nI 1)) := by
    unfold fKeep fKeep1 fKeep0
    rw [fKC_n (by omega) (by omega), cpV_n (by omega), up_n (by omega), up_n (by omega), up_n (by omega), up_n (by omega), up_s]
  have o1 : fKeep1 σ i (7 + (c + 1)) 0 1 = nI (c + 1) := by
    unfold fKeep1 fKeep0
    rw [cpV_n (by omega), up_n (by omega), up_n (by omega), up_n (by omega), up_s, R.x, nI_s]
  have o1' : fKeep σ i (7 + (c + 1)) 0 1 = nI (c + 1) := by unfold fKeep; rw [fKC_n (by omega) (by omega)]; exact o1
  have s6 : fKeep σ i (7 + (c + 1)) 6 (7 + (c + 1)) = σ 6 i := by
    unfold fKeep fKeep1
    rw [fKC_n (by omega) (by omega), cpV_n (by omega), up_n (by omega), up_n (by omega), up_s]
  have s7 : fKeep σ i (7 + (c + 1)) 7 (7 + (c + 1)) = σ 7 i := by
    unfold fKeep fKeep1
    rw [fKC_n (by omega) (by omega), cpV_n (by omega), up_n (by omega), up_s]
  have s8 : fKeep σ i (7 + (c + 1)) 8 (7 + (c + 1)) = σ 8 i := by
    unfold fKeep fKeep1
    rw [fKC_n (by omega) (by omega), cpV_n (by omega), up_s]
  have s9 : ∀ k, k < 4 → fKeep σ i (7 + (c + 1)) 9 ((7 + (c + 1)) * 12 + k) = σ 9 (i * 12 + k) := fun k hk => by
    unfold fKeep fKeep1 fKeep0
    rw [fKC_n (by omega) (by omega), cpV_y (by omega), up_n (by omega), up_n (by omega), up_n (by omega), up_n (by omega), up_n (by omega)]
    congr 1; omega
  have v4 : ∀ k, k < 4 → fKeep σ i (7 + (c + 1)) 4 k = if bitP (nI w) k then σ 10 (i * 12 + k) else σ 4 k := fun k hk => by
    unfold fKeep fKC
    rw [g1 8 i (by omega) (by omega) (by omega) (by omega), f2, g1 10 _ (by omega) (by omega) (by omega) (by omega), g1 4 k (by omega) (by omega) (by omega) (by omega)]
    by_cases bk : bitP (nI w) k
    · rw [if_pos bk, if_pos ⟨rfl, by omega, bk⟩]
    · rw [if_neg bk, if_neg (fun z => bk z.2.2), if_neg (fun z => bk z.2.2)]
  have v5 : ∀ k, k < 4 → fKeep σ i (7 + (c + 1)) 5 k = if bitP (nI w) k then nI (c + 1) else σ 5 k := fun k hk => by
    unfold fKeep fKC
    rw [g1 8 i (by omega) (by omega) (by omega) (by omega), f2, o1, g1 5 k (by omega) (by omega) (by omega) (by omega)]
    by_cases bk : bitP (nI w) k
    · rw [if_pos bk, if_neg (fun z => by omega), if_pos ⟨rfl, by omega, bk⟩]
    · rw [if_neg bk, if_neg (fun z => bk z.2.2), if_neg (fun z => bk z.2.2)]
  -- the law's arrays
  have kc : ∀ m, 1 ≤ m → m ≤ c → cc' (32 + m) = cc (32 + m) := fun m a b => k2 _ (fun w hw => by omega)
  have kv : ∀ m k, 1 ≤ m → m ≤ c → k < 4 → v' (4 * m + k) = v (4 * m + k) := fun m k a b d => k4 _ (fun w hw => by omega)
  have cw : cc' (32 + (c + 1)) = nI w := by have := k1 2 (by omega); rw [← f1, ← this]
  have vs : ∀ k, verN cc' k (c + 1) = if bitP (nI w) k then c + 1 else verN cc k c := fun k => by
    rw [verN_s, cw, verN_cg c kc]
  refine ⟨by omega, ⟨o1', ua_s⟩, ⟨p, p1, by rw [g 0 0 (by omega) (by omega) (by omega) (by omega) (by omega) (by omega)]; exact p2, by rw [ua_n (by omega)]; exact p3⟩, ⟨fun r hr => by rw [g 1 _ (by omega) (by omega) (by omega) (by omega) (by omega) (by omega), ua_n (by omega)]; exact cn.1 r hr, by rw [g 0 2 (by omega) (by omega) (by omega) (by omega) (by omega) (by omega), ua_n (by omega)]; exact cn.2⟩, fun j hj => ?_, fun k hk => ?_, by rw [o3, wo2]; exact m_clr wo wo1 i hi, fun i' hi' => ?_, fun n a b => ?_⟩
  · rw [ua_n (by omega), ua_n (by omega), g 2 _ (by omega) (by omega) (by omega) (by omega) (by omega) (by omega), g 3 _ (by omega) (by omega) (by omega) (by omega) (by omega) (by omega)]; exact R.con hj
  · obtain ⟨q1, q2⟩ := R.val hk
    refine ⟨?_, ?_⟩
    · rw [v4 k hk]
      unfold valN
      rw [vs k]
      by_cases bk : bitP (nI w) k
      · rw [if_pos bk, if_pos bk, if_neg (by omega), k3 k hk, (gg k hk).2, if_pos bk]
      · rw [if_neg bk, if_neg bk, q1]
        unfold valN
        by_cases z : verN cc k c = 0
        · rw [if_pos z, if_pos z]
        · rw [if_neg z, if_neg z, kv _ k (by omega) (verN_le c) hk]
    · rw [v5 k hk, vs k]
      by_cases bk : bitP (nI w) k
      · rw [if_pos bk, if_pos bk]
      · rw [if_neg bk, if_neg bk, q2]
  · have F : SR c (fKeep σ i (7 + (c + 1))) cc v (ua t (3 * i) (-(nI 1))) i' := (R.slot hi').free hi hi' o3 (fun j k a b d => g j k (by omega) (by omega) (by omega) (by omega) (by omega) (by omega))
    exact F.cg (Nat.le_succ c) Iff.rfl rfl rfl rfl (fun _ _ => rfl) (fun _ _ => rfl) (fun _ _ => rfl) (fun _ _ => rfl) kc kv
  · by_cases e : n = c + 1
    · subst e
      have h1 := k1 0 (by omega)
      have h2 := k1 1 (by omega)
      rw [show 16 * 0 + (c + 1) = c + 1 by omega] at h1
      refine ⟨s, r, w, ⟨by omega, b2, b3⟩, ⟨h1.trans d1, s6.trans d2⟩, ⟨h2.trans e1, s7.trans e2⟩, ⟨cw, s8.trans f2⟩, fun k hk => ?_⟩
      rw [s9 k hk, (gg k hk).1, verN_cg s (fun m a b => kc m a (by omega))]
    · refine (R.com a (by omega)).cg (g 6 _ (by omega) (by omega) (by omega) (by omega) (by omega) (by omega)) (g 7 _ (by omega) (by omega) (by omega) (by omega) (by omega) (by omega)) (g 8 _ (by omega) (by omega) (by omega) (by omega) (by omega) (by omega)) (fun k hk => g 9 _ (by omega) (by omega) (by omega) (by omega) (by omega) (by omega)) (k2 _ (fun w hw => by omega)) (k2 _ (fun w hw => by omega)) (fun m a b => kc m a (by omega)) a
