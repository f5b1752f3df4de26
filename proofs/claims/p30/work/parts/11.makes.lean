/-! ===== copies of arrays, new cells, calls: from the world of h to the world of h' ===== -/
section SNM
variable {p : Program} {l : Launch} {e : Env} {R : Room} {s : State} {m : MethodId} {args : Array Value} {below : List Frame} {meth : Method} {c : Code} {H : Heap} {locs : List Loc} {cells slots : Nat} {Q : State → Prop}
variable {cc : ByteArray} {pc : Nat} {ls : Array Slot} {rest : List Value} {D : va_G} {b base Ls : Nat} {xs : Nat → Int32} {cs : Nat → ClassId} {h : sn_H} {H0 : Heap}
theorem sn_copy (hexec : p.tables.exec = Jvm.exec) (hb : c.code = cc) (hml : c.maxLocals = ls.size) {own : String} {index : Nat} (hown : s.vm.findClass own = some m.cls) (hlink : (Jvm.Cond.methodLink own index arraycopyName).before args s = true) (hnat : (Jvm.Cond.native arraycopyName).before args s = true) (hstat : (Jvm.Cond.static arraycopyName).before args s = true) (hini : (Jvm.Cond.initialized "java/lang/System").before args s = true)
    (hK1 : sn_Ks D cs s) (hw : sn_Wd b base Ls xs D cs h H) (hS : va_S (fun q => base < q) H0 H locs) {pa pb na nb sp dp n : Nat} (hsp : sp < 65536) (hdp : dp < 65536) (hn : n < 65536) (hka : hK h pa = (1, 0, na)) (hkb : hK h pb = (1, 0, nb)) (h4 : sp + n ≤ na) (h5 : dp + n ≤ nb)
    (hframes : 1 ≤ R.frames) (hlocals : (rest.map fun v => v.category).sum + (nativeFrameWords "java/lang/System" "arraycopy" 5 + 11) ≤ R.locals) (hdg : decode cc pc = .ok (.invokestatic index, 3))
    (kk : ∀ (H1 : Heap) (locs1 : List Loc), sn_Wd b base Ls xs D cs (cpG h pa sp pb dp n) H1 → va_S (fun q => base < q) H0 H1 locs1 → W p l e R s m args below meth c H1 locs1 cells slots Q (F0 m (pc + 3) ls rest)) : W p l e R s m args below meth c H locs cells slots Q (F0 m pc ls (.int (nI n) :: .int (nI dp) :: .ref (base + pb) :: .int (nI sp) :: .ref (base + pa) :: rest)) := by
  obtain ⟨hqa, -⟩ := sn_lt hw hka (by decide) (by simp)
  obtain ⟨hqb, -⟩ := sn_lt hw hkb (by decide) (by simp)
  have hc0 := hw.2.2.1 _ _ (sn_ws_get hqa)
  have hc1 := hw.2.2.1 _ _ (sn_ws_get hqb)
  rw [sn_cell_i hka] at hc0
  rw [sn_cell_i hkb] at hc1
  have hc0 : H[base + pa]? = some (vp_cell (cs 1) (na, .inl (hG h pa))) := hc0
  have hc1 : H[base + pb]? = some (vp_cell (cs 1) (nb, .inl (hG h pb))) := hc1
  obtain ⟨-, k0, hk0, cm0, hkk0⟩ := (hK1.1.2 0 _ rfl).1 na (fun j => .int (hG h pa j))
  obtain ⟨-, k1, hk1, cm1, hkk1⟩ := (hK1.1.2 0 _ rfl).1 nb (fun j => .int (hG h pb j))
  have ts : (nI sp).toInt = (sp : Int) := nI_toInt (by omega)
  have td : (nI dp).toInt = (dp : Int) := nI_toInt (by omega)
  have tn : (nI n).toInt = (n : Int) := nI_toInt (by omega)
  have cs1 : (nI sp).toNatClampNeg = sp := nI_clamp (by omega)
  have cd1 : (nI dp).toNatClampNeg = dp := nI_clamp (by omega)
  have cn1 : (nI n).toNatClampNeg = n := nI_clamp (by omega)
  intro T hT X
  obtain ⟨vm', X', step⟩ := X.arraycopy hexec hown hlink hnat hstat hini (src := base + pa) (dst := base + pb) (cs := vp_cell (cs 1) (na, .inl (hG h pa))) (cd := vp_cell (cs 1) (nb, .inl (hG h pb))) (srcPos := nI sp) (destPos := nI dp) (n := nI n) (by rw [hT]; exact hc0) (by rw [hT]; exact hc1)
    (fun _ h => by cases h) (fun _ h => by cases h) (fun h => by cases h) (fun h => by cases h) hk0 hk1 hkk0 hkk1 (by rfl) (nI_pos (by omega)) (nI_pos (by omega)) (nI_pos (by omega))
    (by rw [ts, tn]; show ¬ _ > ((arrV (cs 1) na (fun j => .int (hG h pa j))).slots.size : Int); rw [arrV_size]; omega)
    (by rw [td, tn]; show ¬ _ > ((arrV (cs 1) nb (fun j => .int (hG h pb j))).slots.size : Int); rw [arrV_size]; omega)
    (fun vm₁ _ i hi => by
      rw [cn1] at hi
      have e1 : (vp_cell (cs 1) (na, .inl (hG h pa))).slots.getD ((nI sp).toNatClampNeg + i) .null = .int (hG h pa ((nI sp).toNatClampNeg + i)) := by
        show (arrV (cs 1) na (fun j => .int (hG h pa j))).slots.getD _ _ = _
        rw [cs1, Array.getD_eq_getD_getElem?, arrV_read _ _ (by omega)]
        rfl
      refine ⟨?_, ?_⟩
      · rw [e1]; rfl
      · rw [e1]; exact trivial)
    (g := F0 m pc ls (.int (nI n) :: .int (nI dp) :: .ref (base + pb) :: .int (nI sp) :: .ref (base + pa) :: rest)) rfl (by rw [hml]) (rest := rest) rfl (by rw [hb]; exact hdg) hframes (by show 2 * 0 + _ + _ ≤ _; omega)
  have e1 : copied (vp_cell (cs 1) (na, .inl (hG h pa))) (vp_cell (cs 1) (nb, .inl (hG h pb))) (nI sp) (nI dp) (nI n) = vp_cell (cs 1) (nb, .inl (va_cpy (hG h pa) (hG h pb) (nI sp).toNatClampNeg (nI dp).toNatClampNeg (nI n).toNatClampNeg)) := va_copied (fun z => .int z) (cs 1) (cs 1) (hG h pa) (hG h pb) (by rw [cs1, cn1]; exact h4)
  rw [cs1, cd1, cn1] at e1
  rw [e1] at X' step
  have hl : base + pb < H.size := (Array.getElem?_eq_some_iff.mp hc1).1
  have hheap : ((T.setVm vm').setCell (base + pb) (vp_cell (cs 1) (nb, .inl (va_cpy (hG h pa) (hG h pb) sp dp n)))).heap = H.setIfInBounds (base + pb) (vp_cell (cs 1) (nb, .inl (va_cpy (hG h pa) (hG h pb) sp dp n))) := by rw [← hT]; rfl
  have oq : ∀ q : Nat, q ≠ base + pb → (H.setIfInBounds (base + pb) (vp_cell (cs 1) (nb, .inl (va_cpy (hG h pa) (hG h pb) sp dp n))))[q]? = H[q]? := fun q hq => by simp [Array.getElem?_setIfInBounds, Ne.symm hq]
  obtain ⟨t, a1, b1⟩ := kk _ _ (sn_Wd_upd (h' := cpG h pa sp pb dp n) hw hqb rfl (fun _ => rfl) (fun x j hx => by
      show (if x = pb ∧ dp ≤ j ∧ j < dp + n then _ else _) = _
      rw [if_neg (fun z => hx z.1)]; rfl) (fun _ _ _ => rfl) (by
      rw [sn_cell_i (h := cpG h pa sp pb dp n) (n := nb) hkb]
      show (H.setIfInBounds (base + pb) _)[base + pb]? = some (vp_cell _ _)
      simp only [Array.getElem?_setIfInBounds, hl, if_true]
      congr 3
      refine congrArg Sum.inl (funext fun j => ?_)
      simp [va_cpy, hG, cpG]) (by simp) oq) ⟨by simp; exact hS.1, fun q g1 g2 => by
      rw [oq q (fun e => g2 (by rw [e]; exact Nat.lt_add_of_pos_right hqb.1))]
      exact hS.2.1 q g1 g2, fun q hq => by
      rcases List.mem_append.mp hq with h | h
      · exact hS.2.2 q h
      · obtain ⟨z, -, hz⟩ := List.mem_map.mp h
        rw [← hz]
        exact Nat.lt_add_of_pos_right hqb.1⟩ _ hheap X'
  exact ⟨t, step t a1, b1⟩
theorem sn_Wd_new {kd : Nat × Nat × Nat} {H1 : Heap} (hw : sn_Wd b base Ls xs D cs h H) (hkd : kd.1 = 4 → kd.2.1 = 1)
    (e1 : va_at D sn_cl (base + hN h, sn_cell b base cs (allocH h kd) (hN h)) H1) (e2 : H1.size = H.size + 1) (e3 : ∀ x, x < H.size → H1[x]? = H[x]?) : sn_Wd b base Ls xs D cs (allocH h kd) H1 := by
  obtain ⟨w1, w2, w3, w4, w5, w6⟩ := hw
  have hn : hN (allocH h kd) = hN h + 1 := rfl
  have hk : ∀ x, x ≠ hN h → hK (allocH h kd) x = hK h x := fun x hx => if_neg hx
  refine ⟨by rw [e2, hn, w1]; omega, by rw [hn]; omega, ?_, fun x => by
      by_cases hx : x = hN h
      · subst hx
        have e0 : hK (allocH h kd) (hN h) = kd := if_pos rfl
        rw [e0, hn]
        exact ⟨fun q => by omega, hkd⟩
      · rw [hk x hx, hn]
        exact ⟨fun q => (w4 x).1 (by omega), (w4 x).2⟩, by rw [hk 0 (by omega)]; exact w5, fun j hj => by
    rw [← w6 j hj]; exact if_neg (show ¬ 0 = hN h by omega)⟩
  intro k x hx
  obtain ⟨hkl, rfl⟩ := sn_ws_inv hx
  rw [hn] at hkl
  by_cases hkq : k + 1 = hN h
  · rw [hkq]; exact e1
  · have h1 := w3 _ _ (sn_ws_get (p := k + 1) (by omega))
    rw [sn_cell_same (h := h) (h' := allocH h kd) (hk (k + 1) hkq) (fun j => if_neg hkq) (fun j => if_neg hkq)]
    exact h1.kept (e3 _ (by dsimp only; omega))
theorem sn_S_new {H1 : Heap} (hS : va_S (fun q => base < q) H0 H locs) (e2 : H1.size = H.size + 1) (e3 : ∀ x, x < H.size → H1[x]? = H[x]?) : va_S (fun q => base < q) H0 H1 locs :=
  ⟨Nat.le_trans hS.1 (by omega), fun x h1 h2 => (e3 x (Nat.lt_of_lt_of_le h1 hS.1)).trans (hS.2.1 x h1 h2), hS.2.2⟩
theorem sn_new (hexec : p.tables.exec = Jvm.exec) (hb : c.code = cc) (hts : ∀ w ∈ sn_TB, w.before args s = true) {own : String} {ci index : Nat} (hown : s.vm.findClass own = some m.cls) (hci : ci < sn_cl.length) (hcl : (Jvm.Cond.classLink own index (sn_oN ci)).before args s = true)
    (hK1 : sn_Ks D cs s) (hw : sn_Wd b base Ls xs D cs h H) (hS : va_S (fun q => base < q) H0 H locs) (hcells : cells + 1 ≤ R.cells) (hslots : slots + sn_fN ci ≤ R.slots) (hdg : decode cc pc = .ok (.new index, 3))
    (kk : ∀ (H1 : Heap), sn_Wd b base Ls xs D cs (allocH h (0, ci, sn_fN ci)) H1 → va_S (fun q => base < q) H0 H1 locs → W p l e R s m args below meth c H1 locs (cells + 1) (slots + sn_fN ci) Q (F0 m (pc + 3) ls (.ref (base + hN h) :: rest))) : W p l e R s m args below meth c H locs cells slots Q (F0 m pc ls rest) := by
  obtain ⟨c1, c2, c3, c4, c5, c6, c7, c8, c9, c10⟩ := sn_cls ci hci
  have hin : ∀ w ∈ u_ws (sn_cT ci).1 (sn_cT ci).2.1 (sn_fN ci), w ∈ sn_TB := by
    intro w hw'
    obtain ⟨j, hj, rfl⟩ := List.mem_map.mp hw'
    exact sn_tb _ (c4 j (List.mem_range.mp hj)) (by unfold u_lay; split <;> rfl)
  have hcl2 : sn_cl[ci]? = some ((sn_cT ci).1, (sn_cT ci).2.1, sn_fN ci) := by rw [← c3]; exact c1
  obtain ⟨hki1, hki2⟩ := sn_ki_ok ci hci
  have hKn := hK1.1.1 ci _ hcl2
  have hw1 := hw.1
  refine W.newcK hexec hb hown hcl (hts _ (sn_tb _ hki1 rfl)) (hts _ (sn_tb _ hki2 rfl)) rfl hdg hcells hslots (by rw [← c2]; exact hKn.2.1) hw1 fun H1 kC hkC e1 z1 o1 => ?_
  refine kk H1 (sn_Wd_new hw (by simp) ?_ (by rw [z1, hw1]) (fun x hx => o1 x (by rw [← hw1]; exact hx))) (sn_S_new hS (by rw [z1, hw1]) (fun x hx => o1 x (by rw [← hw1]; exact hx)))
  rw [sn_cell_o (p := hN h) (h := allocH h (0, ci, sn_fN ci)) (ci := ci) (n := sn_fN ci) (if_pos rfl)]
  refine ⟨_, hcl2, (u_born (sn_tyc ci) hts hin hKn hkC e1 c5).to (fun j hj => ?_)⟩
  unfold vp_V
  rw [List.getD_eq_getElem?_getD, List.getElem?_map, List.getElem?_range hj]
  show defaultValue (sn_tyc ci j) = sn_fv b base (allocH h (0, ci, sn_fN ci)) (hN h) ci j
  unfold sn_fv
  cases hf : sn_fR ci j with
  | true =>
    rw [(c8 j hj hf).2.1]
    have : hR (allocH h (0, ci, sn_fN ci)) (hN h) j = none := if_pos rfl
    rw [this]
  | false =>
    rw [c9 j hj hf]
    have : hG (allocH h (0, ci, sn_fN ci)) (hN h) j = 0 := if_pos rfl
    rw [this]
    rfl
theorem sn_newI (hexec : p.tables.exec = Jvm.exec) (hb : c.code = cc) {at1 : ArrayType} {t : Nat} (hat : (at1 = .int ∧ t = 1) ∨ (at1 = .char ∧ t = 2)) (harr : (Jvm.Cond.arrayClass (newarray.typeOf at1)).before args s = true)
    (hK1 : sn_Ks D cs s) (hw : sn_Wd b base Ls xs D cs h H) (hS : va_S (fun q => base < q) H0 H locs) {n : Nat} (hn : n ≤ 65536) (hcells : cells + 1 ≤ R.cells) (hslots : slots + n ≤ R.slots) (hdg : decode cc pc = .ok (.newarray at1, 2))
    (kk : ∀ (H1 : Heap), sn_Wd b base Ls xs D cs (allocH h (t, 0, n)) H1 → va_S (fun q => base < q) H0 H1 locs → W p l e R s m args below meth c H1 locs (cells + 1) (slots + n) Q (F0 m (pc + 2) ls (.ref (base + hN h) :: rest))) : W p l e R s m args below meth c H locs cells slots Q (F0 m pc ls (.int (nI n) :: rest)) := by
  have hw1 := hw.1
  refine va_newaK hexec hb harr rfl hdg rfl (nI_pos (by omega)) (nI_clamp (by omega)) (by rcases hat with ⟨rfl, -⟩ | ⟨rfl, -⟩ <;> simp [newarray.typeOf, componentBytes] <;> omega) hcells hslots hw1 fun H1 cA e1 z1 o1 hAr hNm => ?_
  refine kk H1 (sn_Wd_new hw ?_ ?_ (by rw [z1, hw1]) (fun x hx => o1 x (by rw [← hw1]; exact hx))) (sn_S_new hS (by rw [z1, hw1]) (fun x hx => o1 x (by rw [← hw1]; exact hx)))
  · rcases hat with ⟨-, rfl⟩ | ⟨-, rfl⟩ <;> simp
  · have z0 : hG (allocH h (t, 0, n)) (hN h) = fun _ => 0 := funext fun j => if_pos rfl
    rcases hat with ⟨rfl, rfl⟩ | ⟨rfl, rfl⟩
    · rw [sn_cell_i (p := hN h) (h := allocH h (1, 0, n)) (n := n) (if_pos rfl), z0]
      have hcA : cA = cs 1 := Option.some.inj (hNm.symm.trans (hK1.1.2 0 _ rfl).2)
      rw [← hcA]
      exact e1
    · rw [sn_cell_c (p := hN h) (h := allocH h (2, 0, n)) (n := n) (if_pos rfl), z0]
      have hcA : cA = cs 2 := Option.some.inj (hNm.symm.trans (hK1.1.2 1 _ rfl).2)
      rw [← hcA]
      exact e1
theorem sn_newQ (hexec : p.tables.exec = Jvm.exec) (hb : c.code = cc) {own : String} {index : Nat} (hown : s.vm.findClass own = some m.cls) (hclink : (Jvm.Cond.classLink own index (sn_oN 1)).before args s = true)
    (hK1 : sn_Ks D cs s) (hw : sn_Wd b base Ls xs D cs h H) (hS : va_S (fun q => base < q) H0 H locs) {n : Nat} (hn : n ≤ 65536) (hcells : cells + 1 ≤ R.cells) (hslots : slots + n ≤ R.slots) (hdg : decode cc pc = .ok (.anewarray index, 3))
    (kk : ∀ (H1 : Heap), sn_Wd b base Ls xs D cs (allocH h (4, 1, n)) H1 → va_S (fun q => base < q) H0 H1 locs → W p l e R s m args below meth c H1 locs (cells + 1) (slots + n) Q (F0 m (pc + 3) ls (.ref (base + hN h) :: rest))) : W p l e R s m args below meth c H locs cells slots Q (F0 m pc ls (.int (nI n) :: rest)) := by
  have hw1 := hw.1
  have hcn : (nI n).toNatClampNeg = n := nI_clamp (by omega)
  refine W.anew hexec hb hown hclink (va_AO.use hK1.2.1) rfl hdg rfl (nI_pos (by omega)) (by rw [hcn]; omega) hcells (by rw [hcn]; exact hslots) fun cA kA comp f1 f2 f3 f4 => ?_
  rw [hcn, hw1]
  generalize hH1 : H.push ({ cls := cA, slots := Array.replicate n .null, vm := .none } : Cell) = H1
  have z1 : H1.size = H.size + 1 := by rw [← hH1, Array.size_push]
  have e1 : H1[H.size]? = some (arrV cA n (fun _ => .null)) := by rw [← hH1, Array.getElem?_push_size, ← arrV_new]
  have o1 : ∀ x, x < H.size → H1[x]? = H[x]? := fun x hx => by rw [← hH1, Array.getElem?_push, if_neg (Nat.ne_of_lt hx)]
  refine kk H1 (sn_Wd_new hw (by simp) ?_ z1 o1) (sn_S_new hS z1 o1)
  rw [sn_cell_q (p := hN h) (h := allocH h (4, 1, n)) (ci := 1) (n := n) (if_pos rfl)]
  have hcA : cA = cs 4 := by
    obtain ⟨kA', comp', g1, g2, g3, g4⟩ := (hK1.1.2 2 _ rfl).2
    exact Option.some.inj (f1.symm.trans g4)
  rw [← hcA]
  show H1[base + hN h]? = some (vp_cell _ _)
  rw [← hw1, e1, vp_cell_q]
  congr 2
  funext j
  have : hR (allocH h (4, 1, n)) (hN h) j = none := if_pos rfl
  simp [this, va_rf]
end SNM
