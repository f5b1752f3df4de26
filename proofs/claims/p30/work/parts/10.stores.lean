/-! ===== stores and new cells: from the world of h to the world of h' ===== -/
section SNS
variable {p : Program} {l : Launch} {e : Env} {R : Room} {s : State} {m : MethodId} {args : Array Value} {below : List Frame} {meth : Method} {c : Code} {H : Heap} {locs : List Loc} {cells slots : Nat} {Q : State → Prop}
variable {cc : ByteArray} {pc : Nat} {ls : Array Slot} {rest : List Value} {D : va_G} {b base Ls : Nat} {xs : Nat → Int32} {cs : Nat → ClassId} {h : sn_H} {H0 : Heap}
theorem sn_Wd_upd {h' : sn_H} {H1 : Heap} {q : Nat} (hw : sn_Wd b base Ls xs D cs h H) (hq : 0 < q ∧ q < hN h) (hn : hN h' = hN h) (hkd : ∀ x, hK h' x = hK h x) (hg : ∀ x j, x ≠ q → hG h' x j = hG h x j) (hr : ∀ x j, x ≠ q → hR h' x j = hR h x j)
    (e1 : va_at D sn_cl (base + q, sn_cell b base cs h' q) H1) (e2 : H1.size = H.size) (e3 : ∀ x, x ≠ base + q → H1[x]? = H[x]?) : sn_Wd b base Ls xs D cs h' H1 := by
  obtain ⟨w1, w2, w3, w4, w5, w6⟩ := hw
  have hqs : q ≠ 0 := by omega
  refine ⟨by rw [e2, hn]; exact w1, by rw [hn]; exact w2, ?_, fun x => by rw [hkd, hn]; exact w4 x, by rw [hkd]; exact w5, fun j hj => by rw [hg _ _ hqs.symm]; exact w6 j hj⟩
  intro k x hx
  obtain ⟨hk, rfl⟩ := sn_ws_inv hx
  rw [hn] at hk
  by_cases hkq : k + 1 = q
  · subst hkq; exact e1
  · have h1 := w3 _ _ (sn_ws_get hk)
    rw [sn_cell_same (h := h) (h' := h') (hkd (k + 1)) (fun j => hr (k + 1) j hkq) (fun j => hg (k + 1) j hkq)]
    exact h1.kept (e3 _ (by dsimp only; omega))
theorem sn_iast (hexec : p.tables.exec = Jvm.exec) (hb : c.code = cc) (hK1 : sn_Ks D cs s) (hw : sn_Wd b base Ls xs D cs h H) (hS : va_S (fun q => base < q) H0 H locs) {q n : Nat} (hk : hK h q = (1, 0, n)) {i x : Int32} (hin : vp_in i n) (hdg : decode cc pc = .ok (.iastore, 1))
    (kk : ∀ (H1 : Heap) (locs1 : List Loc), sn_Wd b base Ls xs D cs (setG h q i.toNatClampNeg x) H1 → va_S (fun q => base < q) H0 H1 locs1 → W p l e R s m args below meth c H1 locs1 cells slots Q (F0 m (pc + 1) ls rest)) : W p l e R s m args below meth c H locs cells slots Q (F0 m pc ls (.int x :: .int i :: .ref (base + q) :: rest)) := by
  obtain ⟨hq, -⟩ := sn_lt hw hk (by decide) (by simp)
  have ha := hw.2.2.1 _ _ (sn_ws_get hq)
  rw [sn_cell_i hk] at ha
  refine W.iast hexec hb ha ((hK1.1.2 0 _ rfl).1 n (fun j => .int (hG h q j))) (fun q => by cases q) (by show ¬ (i < 0 ∨ (arrV _ _ _).slots.size ≤ _); rw [arrV_size]; exact hin) rfl rfl hdg fun H1 e1 z oq => ?_
  refine kk H1 _ (sn_Wd_upd hw hq rfl (fun _ => rfl) (fun x j hx => ?_) (fun _ _ _ => rfl) ?_ z oq) (hS.put z oq (Nat.lt_add_of_pos_right hq.1))
  · show (if x = q ∧ j = i.toNatClampNeg then _ else _) = _
    rw [if_neg (fun z => hx z.1)]; rfl
  · rw [sn_cell_i (h := setG h q i.toNatClampNeg x) (n := n) hk]
    show H1[base + q]? = some (vp_cell _ _)
    rw [e1, vp_cell_i, vp_cell_i, arrV_store]
    congr 2
    funext j
    by_cases hj : j = i.toNatClampNeg
    · subst hj
      simp [updV, hG, setG]
    · simp [updV, hG, setG, hj]
theorem sn_cast (hexec : p.tables.exec = Jvm.exec) (hb : c.code = cc) (hK1 : sn_Ks D cs s) (hw : sn_Wd b base Ls xs D cs h H) (hS : va_S (fun q => base < q) H0 H locs) {q n : Nat} (hk : hK h q = (2, 0, n)) {i x : Int32} (hin : vp_in i n) (hdg : decode cc pc = .ok (.castore, 1))
    (kk : ∀ (H1 : Heap) (locs1 : List Loc), sn_Wd b base Ls xs D cs (setG h q i.toNatClampNeg (vp_nar .char x)) H1 → va_S (fun q => base < q) H0 H1 locs1 → W p l e R s m args below meth c H1 locs1 cells slots Q (F0 m (pc + 1) ls rest)) : W p l e R s m args below meth c H locs cells slots Q (F0 m pc ls (.int x :: .int i :: .ref (base + q) :: rest)) := by
  obtain ⟨hq, -⟩ := sn_lt hw hk (by decide) (by simp)
  have ha := hw.2.2.1 _ _ (sn_ws_get hq)
  rw [sn_cell_c hk] at ha
  refine W.cast hexec hb ha ((hK1.1.2 1 _ rfl).1 n (fun j => .int (hG h q j))) (fun q => by cases q) (by show ¬ (i < 0 ∨ (arrV _ _ _).slots.size ≤ _); rw [arrV_size]; exact hin) rfl rfl hdg fun H1 e1 z oq => ?_
  refine kk H1 _ (sn_Wd_upd hw hq rfl (fun _ => rfl) (fun x j hx => ?_) (fun _ _ _ => rfl) ?_ z oq) (hS.put z oq (Nat.lt_add_of_pos_right hq.1))
  · show (if x = q ∧ j = i.toNatClampNeg then _ else _) = _
    rw [if_neg (fun z => hx z.1)]; rfl
  · rw [sn_cell_c (h := setG h q i.toNatClampNeg (vp_nar .char x)) (n := n) hk]
    show H1[base + q]? = some (vp_cell _ _)
    rw [e1, vp_cell_i, vp_cell_i, arrV_store]
    congr 2
    funext j
    by_cases hj : j = i.toNatClampNeg
    · subst hj
      simp [updV, hG, setG, vp_nar]
      try rfl
    · simp [updV, hG, setG, hj]
theorem sn_aast (hexec : p.tables.exec = Jvm.exec) (hb : c.code = cc) (hK1 : sn_Ks D cs s) (hw : sn_Wd b base Ls xs D cs h H) (hS : va_S (fun q => base < q) H0 H locs) {q n v : Nat} (hk : hK h q = (4, 1, n)) (hv : hK h v = (0, 1, sn_fN 1)) {i : Int32} (hin : vp_in i n) (hdg : decode cc pc = .ok (.aastore, 1))
    (kk : ∀ (H1 : Heap) (locs1 : List Loc), sn_Wd b base Ls xs D cs (setR h q i.toNatClampNeg v) H1 → va_S (fun q => base < q) H0 H1 locs1 → W p l e R s m args below meth c H1 locs1 cells slots Q (F0 m (pc + 1) ls rest)) : W p l e R s m args below meth c H locs cells slots Q (F0 m pc ls (.ref (base + v) :: .int i :: .ref (base + q) :: rest)) := by
  obtain ⟨hq, -⟩ := sn_lt hw hk (by decide) (by simp)
  obtain ⟨hvl, hva⟩ := sn_lt hw hv (by decide) (by simp)
  have ha := hw.2.2.1 _ _ (sn_ws_get hq)
  rw [sn_cell_q hk] at ha
  have hav := hw.2.2.1 _ _ (sn_ws_get hvl)
  rw [sn_cell_o hv] at hav
  have hlt : i.toNatClampNeg < n := Nat.not_le.mp fun q => hin (Or.inr q)
  have h0 : ¬ i < 0 := fun q => hin (Or.inl q)
  obtain ⟨r', hr', cellV, g1, g2, g3, -⟩ := hav
  have hcls := (hK1.1.1 1 _ (sn_cls 1 (by decide)).1).2
  obtain ⟨kA, comp, k1, k2, k3, -⟩ := (hK1.1.2 2 _ rfl).2
  have hcomp : comp = D.1 1 := Option.some.inj (k3.symm.trans hcls.1)
  subst hcomp
  obtain ⟨kC, hkC, -⟩ := hcls.2
  refine W.aast hexec hb ha (fun q h => by cases h) (fun h => by cases h) k1 k2 rfl hkC ⟨h0, by show _ < (arrV _ _ _).slots.size; rw [arrV_size]; exact hlt⟩ g1 (fun q h => by rw [g3] at h; cases h) (by rw [g2]; exact hkC) (by rw [g2]; exact va_assign hcls) rfl rfl hdg fun H1 e1 z oq => ?_
  refine kk H1 _ (sn_Wd_upd hw hq rfl (fun _ => rfl) (fun _ _ _ => rfl) (fun x j hx => ?_) ?_ z oq) (hS.put z oq (Nat.lt_add_of_pos_right hq.1))
  · show (if x = q ∧ j = i.toNatClampNeg then _ else _) = _
    rw [if_neg (fun z => hx z.1)]; rfl
  · rw [sn_cell_q (h := setR h q i.toNatClampNeg v) (ci := 1) (n := n) hk]
    show H1[base + q]? = some (vp_cell _ _)
    rw [e1, vp_cell_q, vp_cell_q, arrV_store]
    congr 2
    funext j
    by_cases hj : j = i.toNatClampNeg
    · subst hj
      simp [updV, hR, setR, va_rf, hva]
    · simp [updV, hR, setR, hj]
/-- a field's store, final in a constructor or not -/
theorem sn_put (hexec : p.tables.exec = Jvm.exec) (hb : c.code = cc) (hts : ∀ w ∈ sn_TB, w.before args s = true) {own : String} (hown : s.vm.findClass own = some m.cls) (hK1 : sn_Ks D cs s) (hw : sn_Wd b base Ls xs D cs h H) (hS : va_S (fun q => base < q) H0 H locs) {q ci k index : Nat} (hci : ci < sn_cl.length) (hkk : k < sn_fN ci) (hk : hK h q = (0, ci, sn_fN ci))
    (hlink : (Jvm.Cond.fieldLink own index (sn_cT ci).1 ((sn_cT ci).2.1 k).2.1 ((sn_cT ci).2.1 k).2.2.1).before args s = true) (hfin : sn_ff ci k = true → meth.name = "<init>" ∧ own = sn_oN ci) {h' : sn_H} {v : Value}
    (hv : sn_fv b base h' q ci k = v) (hfit : fits (sn_tyc ci k) v = true) (hnar : narrow (sn_tyc ci k) v = v) (hn : hN h' = hN h) (hkd : ∀ x, hK h' x = hK h x) (hg : ∀ x j, ¬ (x = q ∧ j = k) → hG h' x j = hG h x j) (hr : ∀ x j, ¬ (x = q ∧ j = k) → hR h' x j = hR h x j)
    (hdg : decode cc pc = .ok (.putfield index, 3))
    (kk : ∀ (H1 : Heap) (locs1 : List Loc), sn_Wd b base Ls xs D cs h' H1 → va_S (fun q => base < q) H0 H1 locs1 → W p l e R s m args below meth c H1 locs1 cells slots Q (F0 m (pc + 3) ls rest)) : W p l e R s m args below meth c H locs cells slots Q (F0 m pc ls (v :: .ref (base + q) :: rest)) := by
  obtain ⟨hq, -⟩ := sn_lt hw hk (by decide) (by simp)
  have ha := hw.2.2.1 _ _ (sn_ws_get hq)
  rw [sn_cell_o hk] at ha
  obtain ⟨c1, c2, c3, c4, c5, c6, c7, c8, c9, c10⟩ := sn_cls ci hci
  have hin : ∀ w ∈ u_ws (sn_cT ci).1 (sn_cT ci).2.1 (sn_fN ci), w ∈ sn_TB := by
    intro w hw'
    obtain ⟨j, hj, rfl⟩ := List.mem_map.mp hw'
    exact sn_tb _ (c4 j (List.mem_range.mp hj)) (by unfold u_lay; split <;> rfl)
  have hcl : sn_cl[ci]? = some ((sn_cT ci).1, (sn_cT ci).2.1, sn_fN ci) := by rw [← c3]; exact c1
  have hap := va_apart (own := own) hts hin (sn_tyc ci) c5 c10 hK1.1 hcl
  obtain ⟨r, h1, cell, q1, q2, q3, q4⟩ := ha
  have hr1 : r = ((sn_cT ci).1, (sn_cT ci).2.1, sn_fN ci) := Option.some.inj (h1.symm.trans hcl)
  subst hr1
  obtain ⟨hSl, hfc, kC, hkC, hkind⟩ := hK1.1.1 ci _ hcl
  obtain ⟨cf, kf, fi, f, hi, hsl⟩ := hSl k hkk
  have hi2 : s.fieldFound? (sn_cT ci).1 ((sn_cT ci).2.1 k).2.1 ((sn_cT ci).2.1 k).2.2.1 = some (cf, kf, fi, f) := by rw [← c6 k hkk]; exact hi
  have hlay := hts _ (hin _ (u_in_lay hkk))
  have hst := (u_facts hfc hkC (u_lays hts hin hkk) hi).1
  have hend : ∀ (H' : Heap), H'[base + q]? = some (cell.setSlot f.slot v) → H'.size = H.size → (∀ x, x ≠ base + q → H'[x]? = H[x]?) → sn_Wd b base Ls xs D cs h' H' := by
    intro H' e1 e2 e3
    refine sn_Wd_upd hw hq hn hkd (fun x j hx => hg x j (fun z => hx z.1)) (fun x j hx => hr x j (fun z => hx z.1)) ?_ e2 e3
    rw [sn_cell_o (h := h') (ci := ci) (n := sn_fN ci) (by rw [hkd]; exact hk)]
    refine ⟨_, hcl, t_OB.to (V := updV (vp_V ((List.range (sn_fN ci)).map (sn_fv b base h q ci))) k v) ⟨cell.setSlot (D.2 ci k) v, by rw [hsl] at e1; exact e1, q2, q3, t_set q4 hap hkk v⟩ (fun j hj => ?_)⟩
    have gt : ∀ (hh : sn_H), vp_V ((List.range (sn_fN ci)).map (sn_fv b base hh q ci)) j = sn_fv b base hh q ci j := fun hh => by
      unfold vp_V
      rw [List.getD_eq_getElem?_getD, List.getElem?_map, List.getElem?_range hj]
      rfl
    rw [gt h']
    by_cases hjk : j = k
    · subst hjk
      simp [updV, hv]
    · simp only [updV, if_neg hjk]
      rw [gt h]
      unfold sn_fv
      rw [hg q j (fun z => hjk z.2), hr q j (fun z => hjk z.2)]
  cases hff : sn_ff ci k with
  | false =>
    unfold u_lay at hlay
    rw [if_neg (by rw [c7 k hkk, hff]; decide)] at hlay
    have h6 := u_store hfc hkC hkind hlay hi (c5 k hkk) hnar hfit
    refine W.putK hexec hb (f := f) ⟨hown, hlink, ⟨_, _, _, hi2⟩, hst⟩ (by rw [q2]; exact h6) q1 q3 (by rw [hsl]; exact k2_hasslot (q4 k hkk)) rfl rfl hdg fun H' e1 e2 e3 => ?_
    exact kk H' _ (hend H' e1 e2 e3) (hS.put e2 e3 (Nat.lt_add_of_pos_right hq.1))
  | true =>
    obtain ⟨hin2, hown2⟩ := hfin hff
    unfold u_lay at hlay
    rw [if_pos (by rw [c7 k hkk, hff])] at hlay
    have hcf : m.cls = cf := by
      obtain ⟨_, _, c', _, _, _, -, -, hf', -, -, -, hown3, -⟩ := Cond.laysFinal_spec hlay
      have e1 : c' = cf := by have := hi.symm.trans hf'; simp at this; exact this.1.symm
      rw [c6 k hkk, c2, ← hown2] at hown3
      rw [← e1]; exact Option.some.inj (hown.symm.trans hown3)
    have h6 := u_fits hfc hkC hkind (Or.inr hlay) hi (c5 k hkk) hnar hfit
    refine W.putFinK hexec hb hown hlink hi2 hst hcf hin2 (by rw [q2]; exact h6) q1 q3 (by rw [hsl]; exact k2_hasslot (q4 k hkk)) rfl rfl hdg fun H' e1 e2 e3 => ?_
    exact kk H' _ (hend H' e1 e2 e3) (hS.put e2 e3 (Nat.lt_add_of_pos_right hq.1))
theorem sn_get (hexec : p.tables.exec = Jvm.exec) (hb : c.code = cc) (hts : ∀ w ∈ sn_TB, w.before args s = true) {own : String} (hown : s.vm.findClass own = some m.cls) (hK1 : sn_Ks D cs s) (hw : sn_Wd b base Ls xs D cs h H) {q ci k index : Nat} (hci : ci < sn_cl.length) (hkk : k < sn_fN ci) (hk : hK h q = (0, ci, sn_fN ci))
    (hlink : (Jvm.Cond.fieldLink own index (sn_cT ci).1 ((sn_cT ci).2.1 k).2.1 ((sn_cT ci).2.1 k).2.2.1).before args s = true) (hdg : decode cc pc = .ok (.getfield index, 3))
    (kk : W p l e R s m args below meth c H locs cells slots Q (F0 m (pc + 3) ls (sn_fv b base h q ci k :: rest))) : W p l e R s m args below meth c H locs cells slots Q (F0 m pc ls (.ref (base + q) :: rest)) := by
  obtain ⟨hq, -⟩ := sn_lt hw hk (by decide) (by simp)
  obtain ⟨c1, c2, c3, c4, c5, c6, c7, c8, c9, c10⟩ := sn_cls ci hci
  have hin : ∀ w ∈ u_ws (sn_cT ci).1 (sn_cT ci).2.1 (sn_fN ci), w ∈ sn_TB := by
    intro w hw'
    obtain ⟨j, hj, rfl⟩ := List.mem_map.mp hw'
    exact sn_tb _ (c4 j (List.mem_range.mp hj)) (by unfold u_lay; split <;> rfl)
  have hcl : sn_cl[ci]? = some ((sn_cT ci).1, (sn_cT ci).2.1, sn_fN ci) := by rw [← c3]; exact c1
  have he := sn_ws_get (b := b) (base := base) (cs := cs) hq
  rw [sn_cell_o hk] at he
  refine va_get (fs := (List.range (sn_fN ci)).map (sn_fv b base h q ci)) hexec hb hts hin hown hK1.1 hw.2.2.1 _ he hcl k hkk hlink (fun x hx => ?_) ?_ hdg kk
  · rw [c6 k hkk] at hx; exact hx
  · rw [List.getElem?_map, List.getElem?_range hkk]; rfl
end SNS
