/-! ===== the world of the machine of places on the real heap: place k lies at the address base + k; the script is the place 0, at the address b ===== -/
def sn_ad (b base k : Nat) : Nat := if k = 0 then b else base + k
def sn_cv (b base : Nat) : Value → Value
  | .ref k => .ref (sn_ad b base k)
  | v => v
def sn_fv (b base : Nat) (h : sn_H) (p ci k : Nat) : Value := match sn_fR ci k with
  | true => (match hR h p k with
    | some q => .ref (sn_ad b base q)
    | none => .null)
  | false => .int (hG h p k)
def sn_cell (b base : Nat) (cs : Nat → ClassId) (h : sn_H) (p : Nat) : va_E := match hK h p with
  | (0, ci, n) => .inr (ci, (List.range n).map (sn_fv b base h p ci))
  | (4, _, n) => .inl (cs 4, n, .inr (.inr (.inr (.inr (fun i => (hR h p i).map (sn_ad b base))))))
  | (t, _, n) => .inl (cs t, n, .inl (hG h p))
def sn_ws (b base : Nat) (cs : Nat → ClassId) (h : sn_H) : va_W := (List.range (hN h - 1)).map (fun j => (base + (j + 1), sn_cell b base cs h (j + 1)))
def sn_tys (cs : Nat → ClassId) : List (ClassId × FieldType) := [(cs 1, .int), (cs 2, .char), (cs 4, .object (sn_oN 1))]
def sn_as (b base : Nat) : Nat → sn_L → List (Nat × Value)
  | _, [] => []
  | i, none :: l => sn_as b base (i + 1) l
  | i, some v :: l => (i, sn_cv b base v) :: sn_as b base (i + 1) l
theorem sn_ws_len {b base : Nat} {cs : Nat → ClassId} {h : sn_H} : (sn_ws b base cs h).length = hN h - 1 := by simp [sn_ws]
theorem sn_ws_get {b base p : Nat} {cs : Nat → ClassId} {h : sn_H} (hp : 0 < p ∧ p < hN h) : (sn_ws b base cs h)[p - 1]? = some (base + p, sn_cell b base cs h p) := by
  have h1 : p - 1 < hN h - 1 := by omega
  have h2 : p - 1 + 1 = p := by omega
  simp [sn_ws, List.getElem?_map, List.getElem?_range h1, h2]
theorem sn_ws_inv {b base k : Nat} {cs : Nat → ClassId} {h : sn_H} {q : Nat × va_E} (hq : (sn_ws b base cs h)[k]? = some q) : (0 < k + 1 ∧ k + 1 < hN h) ∧ q = (base + (k + 1), sn_cell b base cs h (k + 1)) := by
  have hl : k < (sn_ws b base cs h).length := (List.getElem?_eq_some_iff.mp hq).1
  rw [sn_ws_len] at hl
  have hl' : 0 < k + 1 ∧ k + 1 < hN h := by omega
  have := sn_ws_get (b := b) (base := base) (cs := cs) hl'
  rw [Nat.add_sub_cancel, hq] at this
  exact ⟨hl', Option.some.inj this⟩
theorem sn_ws_D {b base : Nat} {cs : Nat → ClassId} {h : sn_H} : va_D (fun q => base < q) (sn_ws b base cs h) := by
  refine ⟨fun i j p q hi hj hpq => ?_, fun k q hq => ?_⟩
  · obtain ⟨-, rfl⟩ := sn_ws_inv hi
    obtain ⟨-, rfl⟩ := sn_ws_inv hj
    dsimp only at hpq
    omega
  · obtain ⟨-, rfl⟩ := sn_ws_inv hq
    dsimp only
    omega
/-- the heap holds the places -/
def sn_Wd (b base Ls : Nat) (xs : Nat → Int32) (D : va_G) (cs : Nat → ClassId) (h : sn_H) (H : Heap) : Prop :=
  H.size = base + hN h ∧ 1 ≤ hN h ∧ va_P D sn_cl (sn_ws b base cs h) H ∧ (∀ p, (hN h ≤ p → (hK h p).1 = 9) ∧ ((hK h p).1 = 4 → (hK h p).2.1 = 1)) ∧ hK h 0 = (1, 1, Ls) ∧ ∀ j, j < Ls → hG h 0 j = xs j
/-- what the tables say -/
def sn_Ks (D : va_G) (cs : Nat → ClassId) (U : State) : Prop := va_K D sn_cl (sn_tys cs) U ∧ va_AO (sn_oN 1) U ∧ ∀ q ∈ sn_lk, q.2.2.2.1 = 1 → va_Nw (.methodLinkNest (sn_oN q.1) q.2.1 (sn_mY q.2.2.1) "SnapshotRings") U
theorem sn_Ks.warm {D : va_G} {cs : Nat → ClassId} {s U : State} (hW : s.WarmedH U.vm) (h : sn_Ks D cs s) : sn_Ks D cs U :=
  ⟨va_K.moved hW.alike h.1, va_AO.moved hW.alike h.2.1, fun q hq h1 => va_Nw.warmM hW (h.2.2 q hq h1)⟩
theorem sn_Ks.same {D : va_G} {cs : Nat → ClassId} {s U : State} (hv : s.vm = U.vm) (h : sn_Ks D cs s) : sn_Ks D cs U :=
  ⟨va_K.moved (by rw [hv]; exact Vm.Alike.refl U.vm) h.1, va_AO.moved (by rw [hv]; exact Vm.Alike.refl U.vm) h.2.1, fun q hq h1 => va_Nw.same rfl hv (h.2.2 q hq h1)⟩
theorem sn_lt {b base Ls : Nat} {xs : Nat → Int32} {D : va_G} {cs : Nat → ClassId} {h : sn_H} {H : Heap} (hw : sn_Wd b base Ls xs D cs h H) {p t x n : Nat} (hk : hK h p = (t, x, n)) (ht : t < 9) (hx : ¬ (t = 1 ∧ x = 1)) : (0 < p ∧ p < hN h) ∧ sn_ad b base p = base + p := by
  obtain ⟨-, -, -, h9, hs, -⟩ := hw
  have hne : p ≠ 0 := by
    intro e
    rw [e, hs] at hk
    exact hx (by simp at hk; exact ⟨hk.1.symm, hk.2.1.symm⟩)
  refine ⟨⟨Nat.pos_of_ne_zero hne, ?_⟩, by unfold sn_ad; rw [if_neg hne]⟩
  rcases Nat.lt_or_ge p (hN h) with q | q
  · exact q
  · have := (h9 p).1 q
    rw [hk] at this
    simp at this
    omega
theorem sn_cell_o {b base : Nat} {cs : Nat → ClassId} {h : sn_H} {p ci n : Nat} (hk : hK h p = (0, ci, n)) : sn_cell b base cs h p = .inr (ci, (List.range n).map (sn_fv b base h p ci)) := by unfold sn_cell; rw [hk]; rfl
theorem sn_cell_q {b base : Nat} {cs : Nat → ClassId} {h : sn_H} {p ci n : Nat} (hk : hK h p = (4, ci, n)) : sn_cell b base cs h p = .inl (cs 4, n, .inr (.inr (.inr (.inr (fun i => (hR h p i).map (sn_ad b base)))))) := by unfold sn_cell; rw [hk]; rfl
theorem sn_cell_i {b base : Nat} {cs : Nat → ClassId} {h : sn_H} {p n : Nat} (hk : hK h p = (1, 0, n)) : sn_cell b base cs h p = .inl (cs 1, n, .inl (hG h p)) := by unfold sn_cell; rw [hk]; rfl
theorem sn_cell_c {b base : Nat} {cs : Nat → ClassId} {h : sn_H} {p n : Nat} (hk : hK h p = (2, 0, n)) : sn_cell b base cs h p = .inl (cs 2, n, .inl (hG h p)) := by unfold sn_cell; rw [hk]; rfl
/-- a cell is the same where kind, references and numbers of it are -/
theorem sn_cell_same {b base : Nat} {cs : Nat → ClassId} {h h' : sn_H} {p : Nat} (h1 : hK h' p = hK h p) (h2 : ∀ k, hR h' p k = hR h p k) (h3 : ∀ k, hG h' p k = hG h p k) : sn_cell b base cs h' p = sn_cell b base cs h p := by
  have e2 : hR h' p = hR h p := funext h2
  have e3 : hG h' p = hG h p := funext h3
  have e4 : ∀ ci, sn_fv b base h' p ci = sn_fv b base h p ci := fun ci => funext fun k => by unfold sn_fv; rw [e2, e3]
  unfold sn_cell
  rw [h1, e2, e3]
  simp only [e4]
theorem sn_as_mem {b base : Nat} : ∀ {L : sn_L} {i0 : Nat} {q : Nat × Value}, q ∈ sn_as b base i0 L ↔ ∃ j v, L[j]? = some (some v) ∧ q = (i0 + j, sn_cv b base v)
  | [], i0, q => by simp [sn_as]
  | none :: l, i0, q => by
    unfold sn_as
    rw [sn_as_mem]
    constructor
    · rintro ⟨j, v, h1, h2⟩
      exact ⟨j + 1, v, by simpa using h1, by rw [h2]; congr 1; omega⟩
    · rintro ⟨j, v, h1, h2⟩
      cases j with
      | zero => simp at h1
      | succ j => exact ⟨j, v, by simpa using h1, by rw [h2]; congr 1; omega⟩
  | some w :: l, i0, q => by
    unfold sn_as
    rw [List.mem_cons, sn_as_mem]
    constructor
    · rintro (h | ⟨j, v, h1, h2⟩)
      · exact ⟨0, w, rfl, h⟩
      · exact ⟨j + 1, v, by simpa using h1, by rw [h2]; congr 1; omega⟩
    · rintro ⟨j, v, h1, h2⟩
      cases j with
      | zero =>
        simp at h1
        subst h1
        exact Or.inl h2
      | succ j => exact Or.inr ⟨j, v, by simpa using h1, by rw [h2]; congr 1; omega⟩
theorem sn_at {b base nL i : Nat} {ls : Array Slot} {L : sn_L} {v : Value} (h : lv_has ls nL (sn_as b base 0 L)) (hv : sn_nth L i = some (some v)) : ls[i]? = some (.val (sn_cv b base v)) := by
  rw [sn_nth_eq] at hv
  have := h.2.2 (i, sn_cv b base v) (sn_as_mem.mpr ⟨i, v, hv, by simp⟩)
  exact this
theorem sn_cv_cat (b base : Nat) (v : Value) : (sn_cv b base v).category = v.category := by cases v <;> rfl
theorem clrL_get {L : sn_L} {i j : Nat} {w : Value} (h : (clrL L i)[j]? = some (some w)) : L[j]? = some (some w) ∧ ¬ (j + 1 = i ∧ w.category = 2) := by
  cases i with
  | zero => exact ⟨h, fun q => by omega⟩
  | succ i =>
    dsimp only [clrL] at h
    rw [sn_nth_eq] at h
    split at h
    · rename_i v hv
      cases hc : Nat.beq v.category 2 with
      | true =>
        rw [hc] at h
        dsimp only [cond_true] at h
        by_cases hj : j = i
        · subst hj
          rw [List.getElem?_set_self (List.getElem?_eq_some_iff.mp hv).1] at h
          simp at h
        · rw [List.getElem?_set_ne (fun q => hj q.symm)] at h
          exact ⟨h, fun q => hj (by omega)⟩
      | false =>
        rw [hc] at h
        dsimp only [cond_false] at h
        refine ⟨h, fun q => ?_⟩
        have hj : j = i := by omega
        subst hj
        rw [hv] at h
        have e : v = w := Option.some.inj (Option.some.inj h)
        rw [← e] at q
        rw [q.2] at hc
        cases hc
    · rename_i hv
      refine ⟨h, fun q => ?_⟩
      have hj : j = i := by omega
      subst hj
      exact hv w h
theorem sn_stl1 {b base nL i : Nat} {ls' : Array Slot} {L : sn_L} {v : Value} (h : lv_has ls' nL ((i, sn_cv b base v) :: (sn_as b base 0 L).filter (fun q => !(q.1 == i) && !(q.1 + 1 == i && q.2.category == 2)))) : lv_has ls' nL (sn_as b base 0 (stL L i v)) := by
  refine ⟨h.1, h.2.1, fun q hq => h.2.2 q ?_⟩
  obtain ⟨j, w, h1, rfl⟩ := sn_as_mem.mp hq
  unfold stL at h1
  by_cases hj : j = i
  · subst hj
    have hl := (List.getElem?_eq_some_iff.mp h1).1
    rw [List.getElem?_set_self (by simpa using hl)] at h1
    have e : v = w := Option.some.inj (Option.some.inj h1)
    rw [e, Nat.zero_add]
    exact List.mem_cons_self
  · rw [List.getElem?_set_ne (fun q => hj q.symm)] at h1
    obtain ⟨g1, g2⟩ := clrL_get h1
    refine List.mem_cons_of_mem _ (List.mem_filter.mpr ⟨sn_as_mem.mpr ⟨j, w, g1, rfl⟩, ?_⟩)
    simp only [Nat.zero_add, sn_cv_cat, Bool.and_eq_true, Bool.not_eq_true', beq_eq_false_iff_ne, ne_eq, Bool.and_eq_false_iff]
    refine ⟨hj, ?_⟩
    by_cases h2 : j + 1 = i
    · exact Or.inr (fun q => g2 ⟨h2, q⟩)
    · exact Or.inl h2
theorem sn_stl2 {b base nL i : Nat} {ls' : Array Slot} {L : sn_L} {v : Value} (h : lv_has ls' nL ((i, sn_cv b base v) :: (sn_as b base 0 L).filter (fun q => !(q.1 == i) && (!(q.1 == i + 1) && !(q.1 + 1 == i && q.2.category == 2))))) : lv_has ls' nL (sn_as b base 0 (stLL L i v)) := by
  refine ⟨h.1, h.2.1, fun q hq => h.2.2 q ?_⟩
  obtain ⟨j, w, h1, rfl⟩ := sn_as_mem.mp hq
  unfold stLL at h1
  by_cases hj1 : j = i + 1
  · subst hj1
    have hl := (List.getElem?_eq_some_iff.mp h1).1
    rw [List.getElem?_set_self (by simpa using hl)] at h1
    simp at h1
  · rw [List.getElem?_set_ne (fun q => hj1 q.symm)] at h1
    by_cases hj : j = i
    · subst hj
      have hl := (List.getElem?_eq_some_iff.mp h1).1
      rw [List.getElem?_set_self (by simpa using hl)] at h1
      have e : v = w := Option.some.inj (Option.some.inj h1)
      rw [e, Nat.zero_add]
      exact List.mem_cons_self
    · rw [List.getElem?_set_ne (fun q => hj q.symm)] at h1
      obtain ⟨g1, g2⟩ := clrL_get h1
      refine List.mem_cons_of_mem _ (List.mem_filter.mpr ⟨sn_as_mem.mpr ⟨j, w, g1, rfl⟩, ?_⟩)
      simp only [Nat.zero_add, sn_cv_cat, Bool.and_eq_true, Bool.not_eq_true', beq_eq_false_iff_ne, ne_eq, Bool.and_eq_false_iff]
      refine ⟨hj, hj1, ?_⟩
      by_cases h2 : j + 1 = i
      · exact Or.inr (fun q => g2 ⟨h2, q⟩)
      · exact Or.inl h2
theorem ldF_d {L : sn_L} {i : Nat} {k : Value → Prop} (h : ldF L i k) : ∃ v, sn_nth L i = some (some v) ∧ k v := by
  unfold ldF at h; split at h
  · rename_i v hv; exact ⟨v, hv, h⟩
  · exact h.elim
theorem i1F_d {st : List Value} {k : Int32 → List Value → Prop} (h : i1F st k) : ∃ x r, st = .int x :: r ∧ k x r := by
  unfold i1F at h; split at h
  · exact ⟨_, _, rfl, h⟩
  · exact h.elim
theorem i2F_d {st : List Value} {k : Int32 → Int32 → List Value → Prop} (h : i2F st k) : ∃ x y r, st = .int y :: .int x :: r ∧ k x y r := by
  unfold i2F at h; split at h
  · exact ⟨_, _, _, rfl, h⟩
  · exact h.elim
theorem l2F_d {st : List Value} {k : Int64 → Int64 → List Value → Prop} (h : l2F st k) : ∃ x y r, st = .long y :: .long x :: r ∧ k x y r := by
  unfold l2F at h; split at h
  · exact ⟨_, _, _, rfl, h⟩
  · exact h.elim
theorem r1F_d {st : List Value} {k : Nat → List Value → Prop} (h : r1F st k) : ∃ x r, st = .ref x :: r ∧ k x r := by
  unfold r1F at h; split at h
  · exact ⟨_, _, rfl, h⟩
  · exact h.elim
theorem v1F_d {st : List Value} {k : Value → List Value → Prop} (h : v1F st k) : ∃ x r, st = x :: r ∧ k x r := by
  unfold v1F at h; split at h
  · exact ⟨_, _, rfl, h⟩
  · exact h.elim
theorem irF_d {st : List Value} {k : Int32 → Nat → List Value → Prop} (h : irF st k) : ∃ i p r, st = .int i :: .ref p :: r ∧ k i p r := by
  unfold irF at h; split at h
  · exact ⟨_, _, _, rfl, h⟩
  · exact h.elim
theorem virF_d {st : List Value} {k : Value → Int32 → Nat → List Value → Prop} (h : virF st k) : ∃ v i p r, st = v :: .int i :: .ref p :: r ∧ k v i p r := by
  unfold virF at h; split at h
  · exact ⟨_, _, _, _, rfl, h⟩
  · exact h.elim
theorem popF_d : ∀ {n : Nat} {st acc as r : List Value}, popF n st acc = some (as, r) → ∃ f, st = f ++ r ∧ as = f.reverse ++ acc ∧ f.length = n
  | 0, st, acc, as, r, h => by
    unfold popF at h
    simp at h
    exact ⟨[], by simp [h.2], by simp [h.1], rfl⟩
  | n + 1, [], acc, as, r, h => by simp [popF] at h
  | n + 1, v :: st, acc, as, r, h => by
    unfold popF at h
    obtain ⟨f, h1, h2, h3⟩ := popF_d h
    exact ⟨v :: f, by simp [h1], by simp [h2], by simp [h3]⟩
theorem sn_cats (b base : Nat) (r : List Value) : ((r.map (sn_cv b base)).map fun v => v.category).sum = catsF r := by
  unfold catsF
  rw [List.map_map]
  congr 1
  apply List.map_congr_left
  intro v _
  exact sn_cv_cat b base v
theorem sn_args {b base : Nat} : ∀ {as : List Value} {i0 : Nat} {n : Nat} {q : Nat × Value}, q ∈ sn_as b base i0 (slL as ++ List.replicate n none) → q ∈ lv_args i0 (as.map (sn_cv b base))
  | [], i0, n, q, h => by
    obtain ⟨j, v, h1, -⟩ := sn_as_mem.mp h
    simp only [slL, List.nil_append, List.getElem?_replicate] at h1
    split at h1 <;> simp at h1
  | v :: l, i0, n, q, h => by
    simp only [slL, List.cons_append, sn_as, List.mem_cons] at h
    simp only [List.map_cons, lv_args, List.mem_cons, sn_cv_cat]
    rcases h with h | h
    · exact Or.inl h
    · refine Or.inr ?_
      cases hc : Nat.beq v.category 2 with
      | true =>
        rw [hc] at h
        simp only [cond_true, List.cons_append, sn_as] at h
        rw [if_pos (Nat.eq_of_beq_eq_true hc)]
        exact sn_args h
      | false =>
        rw [hc] at h
        simp only [cond_false] at h
        rw [if_neg (Nat.ne_of_beq_eq_false hc)]
        exact sn_args h
