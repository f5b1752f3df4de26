/-! ===== the main theorem of the machine of places ===== -/
theorem sn_tswM {x : Int32} {K : Int → Prop} : ∀ (l : List Int) (lo : Int), tswF x lo K l → ∀ (j : Nat) (o : Int), l[j]? = some o → x.toInt = lo + j → K o
  | [], _, _, j, o, h, _ => by simp at h
  | a :: l, lo, H, 0, o, h, hx => by
    simp at h
    subst h
    exact H.1 (by simpa using hx)
  | a :: l, lo, H, j + 1, o, h, hx => sn_tswM l (lo + 1) H.2 j o (by simpa using h) (by rw [hx]; simp; omega)
theorem sn_lswM {x : Int32} {d : Int} {K : Int → Prop} : ∀ (l : List (Int × Int)), lswF x d K l → K (Op.lookupswitch.offset l d x.toInt)
  | [], H => by
    have : Op.lookupswitch.offset [] d x.toInt = d := rfl
    rw [this]; exact H
  | (a, o) :: l, H => by
    rw [Op.lookupswitch.offset_cons]
    by_cases h : x.toInt = a
    · rw [if_pos (by exact h.symm)]
      exact H.1 h
    · rw [if_neg (fun q => h q.symm)]
      exact sn_lswM l (H.2 h)
theorem sn_lswP {d : Int} {x : Int} {P : Int → Prop} (hd : P d) : ∀ (l : List (Int × Int)), (∀ q ∈ l, P q.2) → P (Op.lookupswitch.offset l d x)
  | [], _ => hd
  | (a, o) :: l, h => by
    rw [Op.lookupswitch.offset_cons]
    split
    · exact h _ List.mem_cons_self
    · exact sn_lswP hd l (fun q hq => h q (List.mem_cons_of_mem _ hq))
theorem sn_flD {m n a b : Nat} (h : sn_flB m n a b = true) : a < sn_cl.length ∧ b < sn_fN a ∧ (Jvm.Cond.fieldLink (sn_oN (sn_mO m)) n (sn_cT a).1 ((sn_cT a).2.1 b).2.1 ((sn_cT a).2.1 b).2.2.1) ∈ sn_TB := by
  unfold sn_flB at h
  simp only [Bool.and_eq_true, decide_eq_true_eq] at h
  obtain ⟨⟨h1, h2⟩, h3⟩ := h
  obtain ⟨q, hq, he⟩ := List.mem_map.mp h1
  have hw := sn_fl_ok q hq
  simp only [Prod.mk.injEq] at he
  obtain ⟨e1, e2, e3, e4⟩ := he
  rw [e1, e2, e3, e4] at hw
  exact ⟨h2, h3, sn_tb _ hw rfl⟩
theorem sn_lkD {m n a b : Nat} (h : sn_lkB m n a b = true) : (b = 0 → Jvm.Cond.methodLink (sn_oN (sn_mO m)) n (sn_mY a) ∈ sn_TB) ∧ (∀ {D cs s}, b = 1 → sn_Ks D cs s → va_Nw (.methodLinkNest (sn_oN (sn_mO m)) n (sn_mY a) "SnapshotRings") s) := by
  unfold sn_lkB at h
  simp only [decide_eq_true_eq] at h
  obtain ⟨q, hq, he⟩ := List.mem_map.mp h
  have hw := sn_lk_ok q hq
  simp only [Prod.mk.injEq] at he
  obtain ⟨e1, e2, e3, e4⟩ := he
  rw [e1, e2, e3, e4] at hw
  refine ⟨fun hb => ?_, fun {D cs s} hb hKs => ?_⟩
  · subst hb
    exact sn_tb _ hw rfl
  · have := hKs.2.2 q hq (by rw [e4, hb])
    rw [e1, e2, e3] at this
    exact this
theorem sn_cnD {m n a b : Nat} (h : sn_cnB m n a b = true) (hb : b ≤ 1) : Jvm.Cond.constant (sn_oN (sn_mO m)) n (kI a b) ∈ sn_TB := by
  unfold sn_cnB at h
  simp only [decide_eq_true_eq] at h
  obtain ⟨q, hq, he⟩ := List.mem_map.mp h
  have hw := sn_cn_ok q hq
  simp only [Prod.mk.injEq] at he
  obtain ⟨e1, e2, e3, e4⟩ := he
  rw [e1, e2, e3, e4] at hw
  have : Nat.beq b 2 = false := by
    cases hc : Nat.beq b 2 with
    | false => rfl
    | true => have := Nat.eq_of_beq_eq_true hc; omega
  rw [this] at hw
  exact sn_tb _ hw rfl
theorem sn_cnD2 {m n a : Nat} (h : sn_cnB m n a 2 = true) : Jvm.Cond.constantLong (sn_oN (sn_mO m)) n (lN a) ∈ sn_TB := by
  unfold sn_cnB at h
  simp only [decide_eq_true_eq] at h
  obtain ⟨q, hq, he⟩ := List.mem_map.mp h
  have hw := sn_cn_ok q hq
  simp only [Prod.mk.injEq] at he
  obtain ⟨e1, e2, e3, e4⟩ := he
  rw [e1, e2, e3, e4] at hw
  exact sn_tb _ hw rfl
theorem sn_klD {m n a : Nat} (h : (sn_mO m, n, a) ∈ sn_kl.map (fun q => (q.1, q.2.1, q.2.2.1))) : Jvm.Cond.classLink (sn_oN (sn_mO m)) n (sn_oN a) ∈ sn_TB := by
  obtain ⟨q, hq, he⟩ := List.mem_map.mp h
  have hw := sn_kl_ok q hq
  simp only [Prod.mk.injEq] at he
  obtain ⟨e1, e2, e3⟩ := he
  rw [e1, e2, e3] at hw
  exact sn_tb _ hw rfl
theorem sn_alD {m n : Nat} {l : List (Nat × Nat × Nat)} {y : MethodName} (hl : ∀ q ∈ l, lw_tbl[q.2.2]? = some (.methodLink (sn_oN q.1) q.2.1 y)) (h : (sn_mO m, n) ∈ l.map (fun q => (q.1, q.2.1))) : Jvm.Cond.methodLink (sn_oN (sn_mO m)) n y ∈ sn_TB := by
  obtain ⟨q, hq, he⟩ := List.mem_map.mp h
  have hw := hl q hq
  simp only [Prod.mk.injEq] at he
  obtain ⟨e1, e2⟩ := he
  rw [e1, e2] at hw
  exact sn_tb _ hw rfl
theorem sn_rmD {m y : Nat} (h : sn_rmB m y = true) : sn_fr y + 1 ≤ sn_fr m ∧ 8 + (sn_mL y + 11) + sn_lo y ≤ sn_lo m ∧ y + 1 < sn_NM := by
  unfold sn_rmB at h
  simp only [Bool.and_eq_true, decide_eq_true_eq] at h
  exact ⟨h.1.1, h.1.2, h.2⟩
theorem sn_dcD {m pc len : Nat} {i : Instr} (h : dcB m pc i len = true) : decode (sn_mB m) pc = .ok (i, len) := by
  unfold dcB at h
  exact of_decide_eq_true h
theorem sn_pl {pc : Nat} {o : Int} (h : 0 ≤ (pc : Int) + o) : (pc : Int) + o = ((plF pc o : Nat) : Int) := by
  unfold plF; omega
set_option maxHeartbeats 40000000 in
set_option maxRecDepth 100000 in
theorem sn_step (b base Ls : Nat) (xs : Nat → Int32) (D : va_G) (cs : Nat → ClassId) : sn_cl1 (sn_SIM b base Ls xs D cs) := by
  intro m pc L st h c Q hsem p l e R s mid args below meth cc H locs ls Qs hFX hc1 hc2 hWd hS hL hE
  have hFX' := hFX
  obtain ⟨hx, hb, hml, hown, hts, hinit, hfr, hlo, hRc, hRs, hKs, hX, hbb, hsz⟩ := hFX'
  have go : ∀ {pc' : Nat} {L' : sn_L} {st' : List Value} {h' : sn_H} {c' : Nat × Nat} {H' : Heap} {locs' : List Loc} {ls' : Array Slot}, sn_SIM b base Ls xs D cs m pc' L' st' h' c' Q → c'.1 ≤ R.cells → c'.2 ≤ R.slots → sn_Wd b base Ls xs D cs h' H' → va_S (fun q => base < q) s.heap H' locs' → lv_has ls' (sn_mL m) (sn_as b base 0 L') → W p l e R s mid args below meth cc H' locs' c'.1 c'.2 Qs (F0 mid pc' ls' (st'.map (sn_cv b base))) :=
    fun K h1 h2 h3 h4 h5 => K p l e R s mid args below meth cc _ _ _ Qs hFX h1 h2 h3 h4 h5 hE
  unfold semF at hsem
  split at hsem
  · exact hsem.elim
  · rename_i i a b1 hcd
    have hok := sn_ok hcd
    cases i with
    | iconst n =>
      replace hsem := kF_d hsem
      simp only [okB, Bool.and_eq_true, decide_eq_true_eq] at hok
      exact lv_iconst hx hb (sn_dcD hok.1) hok.2 (go hsem hc1 hc2 hWd hS hL)
    | bipush n =>
      replace hsem := kF_d hsem
      simp only [okB, Bool.and_eq_true, decide_eq_true_eq] at hok
      exact lv_bipush hx hb (sn_dcD hok.1) hok.2 (go hsem hc1 hc2 hWd hS hL)
    | sipush n =>
      replace hsem := kF_d hsem
      simp only [okB, Bool.and_eq_true, decide_eq_true_eq] at hok
      exact lv_sipush hx hb (sn_dcD hok.1) hok.2 (go hsem hc1 hc2 hWd hS hL)
    | ldc n =>
      replace hsem := kF_d hsem
      simp only [okB, Bool.and_eq_true, decide_eq_true_eq] at hok
      exact lv_ldc hx hb hown (hts _ (sn_cnD hok.1.2 hok.2)) (sn_dcD hok.1.1) (go hsem hc1 hc2 hWd hS hL)
    | ldc_w n =>
      replace hsem := kF_d hsem
      simp only [okB, Bool.and_eq_true, decide_eq_true_eq] at hok
      exact lv_ldcw hx hb hown (hts _ (sn_cnD hok.1.2 hok.2)) (sn_dcD hok.1.1) (go hsem hc1 hc2 hWd hS hL)
    | ldc2_w n =>
      simp only [okB, Bool.and_eq_true] at hok
      exact lv_ldc2 hx hb hown (hts _ (sn_cnD2 hok.2)) (sn_dcD hok.1) (go hsem hc1 hc2 hWd hS hL)
    | iload_n k =>
      replace hsem := ldF_d hsem; obtain ⟨v, hv, hsem⟩ := hsem
      cases v <;> first | exact hsem.elim | exact lv_iload_n hx hb (sn_dcD hok) rfl (sn_at hL hv) (go hsem hc1 hc2 hWd hS hL)
    | iload k =>
      replace hsem := ldF_d hsem; obtain ⟨v, hv, hsem⟩ := hsem
      cases v <;> first | exact hsem.elim | exact lv_iload hx hb (sn_dcD hok) (sn_at hL hv) (go hsem hc1 hc2 hWd hS hL)
    | lload_n k =>
      replace hsem := ldF_d hsem; obtain ⟨v, hv, hsem⟩ := hsem
      cases v <;> first | exact hsem.elim | exact lv_lload_n hx hb (sn_dcD hok) rfl (sn_at hL hv) (go hsem hc1 hc2 hWd hS hL)
    | lload k =>
      replace hsem := ldF_d hsem; obtain ⟨v, hv, hsem⟩ := hsem
      cases v <;> first | exact hsem.elim | exact lv_lload hx hb (sn_dcD hok) (sn_at hL hv) (go hsem hc1 hc2 hWd hS hL)
    | aload_n k =>
      replace hsem := ldF_d hsem; obtain ⟨v, hv, hsem⟩ := hsem
      cases v <;> first | exact hsem.elim | exact lv_aload_n hx hb (sn_dcD hok) rfl (sn_at hL hv) (go hsem hc1 hc2 hWd hS hL)
    | aload k =>
      replace hsem := ldF_d hsem; obtain ⟨v, hv, hsem⟩ := hsem
      cases v <;> first | exact hsem.elim | exact lv_aload hx hb (sn_dcD hok) (sn_at hL hv) (go hsem hc1 hc2 hWd hS hL)
    | istore_n k =>
      replace hsem := i1F_d hsem; obtain ⟨x, r, rfl, hk, hsem⟩ := hsem
      exact lv_istore_n hx hb (sn_dcD hok) rfl hL hk rfl (fun ls' hl' => go hsem hc1 hc2 hWd hS (sn_stl1 (v := .int x) hl'))
    | istore k =>
      replace hsem := i1F_d hsem; obtain ⟨x, r, rfl, hk, hsem⟩ := hsem
      exact lv_istore hx hb (sn_dcD hok) hL hk rfl (fun ls' hl' => go hsem hc1 hc2 hWd hS (sn_stl1 (v := .int x) hl'))
    | astore_n k =>
      replace hsem := r1F_d hsem; obtain ⟨x, r, rfl, hk, hsem⟩ := hsem
      exact lv_astore_n hx hb (sn_dcD hok) rfl hL hk rfl (fun ls' hl' => go hsem hc1 hc2 hWd hS (sn_stl1 (v := .ref x) hl'))
    | astore k =>
      replace hsem := r1F_d hsem; obtain ⟨x, r, rfl, hk, hsem⟩ := hsem
      exact lv_astore hx hb (sn_dcD hok) hL hk rfl (fun ls' hl' => go hsem hc1 hc2 hWd hS (sn_stl1 (v := .ref x) hl'))
    | lstore_n k =>
      replace hsem := v1F_d hsem; obtain ⟨v, r, rfl, hsem⟩ := hsem
      cases v <;> first | exact hsem.elim | exact lv_lstore_n hx hb (sn_dcD hok) rfl hL hsem.1 rfl (fun ls' hl' => go hsem.2 hc1 hc2 hWd hS (sn_stl2 (v := .long _) hl'))
    | lstore k =>
      replace hsem := v1F_d hsem; obtain ⟨v, r, rfl, hsem⟩ := hsem
      cases v <;> first | exact hsem.elim | exact lv_lstore hx hb (sn_dcD hok) hL hsem.1 rfl (fun ls' hl' => go hsem.2 hc1 hc2 hWd hS (sn_stl2 (v := .long _) hl'))
    | iinc k n =>
      simp only [okB, Bool.and_eq_true, decide_eq_true_eq] at hok
      replace hsem := ldF_d hsem; obtain ⟨v, hv, hsem⟩ := hsem
      cases v with
      | int x =>
        have hmem : (k, Value.int x) ∈ sn_as b base 0 L := sn_as_mem.mpr ⟨k, .int x, by rw [← sn_nth_eq]; exact hv, by simp [sn_cv]⟩
        obtain ⟨j, hj⟩ := List.getElem?_of_mem hmem
        exact lv_iinc hx hb (sn_dcD hok.1) hL (k := j) hj (by rw [hok.2]) hsem.1 rfl (fun ls' hl' => go (kF_d hsem.2) hc1 hc2 hWd hS (sn_stl1 (v := .int (x + kI a b1)) hl'))
      | _ => exact hsem.elim
    | iadd => replace hsem := i2F_d hsem; obtain ⟨x, y, r, rfl, hsem⟩ := hsem; exact lv_iadd hx hb (sn_dcD hok) (go hsem hc1 hc2 hWd hS hL)
    | isub => replace hsem := i2F_d hsem; obtain ⟨x, y, r, rfl, hsem⟩ := hsem; exact lv_isub hx hb (sn_dcD hok) (go hsem hc1 hc2 hWd hS hL)
    | imul => replace hsem := i2F_d hsem; obtain ⟨x, y, r, rfl, hsem⟩ := hsem; exact lv_imul hx hb (sn_dcD hok) (go hsem hc1 hc2 hWd hS hL)
    | irem => replace hsem := i2F_d hsem; obtain ⟨x, y, r, rfl, hsem⟩ := hsem; exact lv_irem hx hb (sn_dcD hok) hsem.1 (go hsem.2 hc1 hc2 hWd hS hL)
    | iand => replace hsem := i2F_d hsem; obtain ⟨x, y, r, rfl, hsem⟩ := hsem; exact lv_iand hx hb (sn_dcD hok) (go hsem hc1 hc2 hWd hS hL)
    | ior => replace hsem := i2F_d hsem; obtain ⟨x, y, r, rfl, hsem⟩ := hsem; exact lv_ior hx hb (sn_dcD hok) (go hsem hc1 hc2 hWd hS hL)
    | ixor => replace hsem := i2F_d hsem; obtain ⟨x, y, r, rfl, hsem⟩ := hsem; exact lv_ixor hx hb (sn_dcD hok) (go hsem hc1 hc2 hWd hS hL)
    | ishl => replace hsem := i2F_d hsem; obtain ⟨x, y, r, rfl, hsem⟩ := hsem; exact lv_ishl hx hb (sn_dcD hok) (go hsem hc1 hc2 hWd hS hL)
    | ishr => replace hsem := i2F_d hsem; obtain ⟨x, y, r, rfl, hsem⟩ := hsem; exact lv_ishr hx hb (sn_dcD hok) (go hsem hc1 hc2 hWd hS hL)
    | iushr => replace hsem := i2F_d hsem; obtain ⟨x, y, r, rfl, hsem⟩ := hsem; exact lv_iushr hx hb (sn_dcD hok) rfl (go hsem hc1 hc2 hWd hS hL)
    | ineg => replace hsem := i1F_d hsem; obtain ⟨x, r, rfl, hsem⟩ := hsem; exact lv_ineg hx hb (sn_dcD hok) (go hsem hc1 hc2 hWd hS hL)
    | i2l => replace hsem := i1F_d hsem; obtain ⟨x, r, rfl, hsem⟩ := hsem; exact lv_i2l hx hb (sn_dcD hok) rfl (go hsem hc1 hc2 hWd hS hL)
    | i2c => replace hsem := i1F_d hsem; obtain ⟨x, r, rfl, hsem⟩ := hsem; exact lv_i2c hx hb (sn_dcD hok) rfl (go hsem hc1 hc2 hWd hS hL)
    | ladd => replace hsem := l2F_d hsem; obtain ⟨x, y, r, rfl, hsem⟩ := hsem; exact lv_ladd hx hb (sn_dcD hok) (go hsem hc1 hc2 hWd hS hL)
    | lmul => replace hsem := l2F_d hsem; obtain ⟨x, y, r, rfl, hsem⟩ := hsem; exact lv_lmul hx hb (sn_dcD hok) (go hsem hc1 hc2 hWd hS hL)
    | lcmp => replace hsem := l2F_d hsem; obtain ⟨x, y, r, rfl, hsem⟩ := hsem; exact W.lcmp hx hb (sn_dcD hok) (go hsem hc1 hc2 hWd hS hL)
    | dup => replace hsem := v1F_d hsem; obtain ⟨v, r, rfl, hc, hsem⟩ := hsem; exact lv_dup hx hb (sn_dcD hok) (by rw [sn_cv_cat]; exact hc) (go hsem hc1 hc2 hWd hS hL)
    | pop => replace hsem := v1F_d hsem; obtain ⟨v, r, rfl, hc, hsem⟩ := hsem; exact lv_pop hx hb (sn_dcD hok) (by rw [sn_cv_cat]; exact hc) (go hsem hc1 hc2 hWd hS hL)
    | dup2 =>
      replace hsem := v1F_d hsem; obtain ⟨v, r, rfl, hsem⟩ := hsem
      replace hsem := v1F_d (st := r) hsem; obtain ⟨w, r2, rfl, hcv, hcw, hsem⟩ := hsem
      exact lv_dup2_11 hx hb (sn_dcD hok) (by rw [sn_cv_cat]; exact hcv) (by rw [sn_cv_cat]; exact hcw) (go hsem hc1 hc2 hWd hS hL)
    | goto o =>
      simp only [okB, Bool.and_eq_true, decide_eq_true_eq] at hok
      exact lv_goto hx hb (sn_dcD hok.1) hok.2 (go hsem hc1 hc2 hWd hS hL)
    | ifCond co o =>
      simp only [okB, Bool.and_eq_true, decide_eq_true_eq] at hok
      replace hsem := i1F_d hsem; obtain ⟨x, r, rfl, hsem⟩ := hsem
      have hd := sn_dcD hok.1
      cases co with
      | eq => exact lv_if_eq hx hb hd hok.2 (fun q => go (hsem.1 q) hc1 hc2 hWd hS hL) (fun q => go (hsem.2 q) hc1 hc2 hWd hS hL)
      | ne => exact lv_if_ne hx hb hd hok.2 (fun q => go (hsem.1 q) hc1 hc2 hWd hS hL) (fun q => go (hsem.2 q) hc1 hc2 hWd hS hL)
      | lt => exact lv_if_lt hx hb hd hok.2 (fun q => go (hsem.1 q) hc1 hc2 hWd hS hL) (fun q => go (hsem.2 q) hc1 hc2 hWd hS hL)
      | ge => exact lv_if_ge hx hb hd hok.2 (fun q => go (hsem.1 q) hc1 hc2 hWd hS hL) (fun q => go (hsem.2 q) hc1 hc2 hWd hS hL)
      | gt => exact lv_if_gt hx hb hd hok.2 (fun q => go (hsem.1 q) hc1 hc2 hWd hS hL) (fun q => go (hsem.2 q) hc1 hc2 hWd hS hL)
      | le => exact lv_if_le hx hb hd hok.2 (fun q => go (hsem.1 q) hc1 hc2 hWd hS hL) (fun q => go (hsem.2 q) hc1 hc2 hWd hS hL)
    | if_icmp co o =>
      simp only [okB, Bool.and_eq_true, decide_eq_true_eq] at hok
      replace hsem := i2F_d hsem; obtain ⟨x, y, r, rfl, hsem⟩ := hsem
      have hd := sn_dcD hok.1
      cases co with
      | eq => exact lv_icmp_eq hx hb hd hok.2 (fun q => go (hsem.1 q) hc1 hc2 hWd hS hL) (fun q => go (hsem.2 q) hc1 hc2 hWd hS hL)
      | ne => exact lv_icmp_ne hx hb hd hok.2 (fun q => go (hsem.1 q) hc1 hc2 hWd hS hL) (fun q => go (hsem.2 q) hc1 hc2 hWd hS hL)
      | lt => exact lv_icmp_lt hx hb hd hok.2 (fun q => go (hsem.1 q) hc1 hc2 hWd hS hL) (fun q => go (hsem.2 q) hc1 hc2 hWd hS hL)
      | ge => exact lv_icmp_ge hx hb hd hok.2 (fun q => go (hsem.1 q) hc1 hc2 hWd hS hL) (fun q => go (hsem.2 q) hc1 hc2 hWd hS hL)
      | gt => exact lv_icmp_gt hx hb hd hok.2 (fun q => go (hsem.1 q) hc1 hc2 hWd hS hL) (fun q => go (hsem.2 q) hc1 hc2 hWd hS hL)
      | le => exact lv_icmp_le hx hb hd hok.2 (fun q => go (hsem.1 q) hc1 hc2 hWd hS hL) (fun q => go (hsem.2 q) hc1 hc2 hWd hS hL)
    | tableswitch d lo hi os =>
      simp only [okB, Bool.and_eq_true, decide_eq_true_eq] at hok
      obtain ⟨⟨⟨o1, o2⟩, o3⟩, o4⟩ := hok
      obtain ⟨len, hd⟩ : ∃ len, decode (sn_mB m) pc = .ok (.tableswitch d lo hi os, len) := by
        revert o1
        cases decode (sn_mB m) pc with
        | error => simp
        | ok q => obtain ⟨j, len⟩ := q; intro o1; simp at o1; subst o1; exact ⟨len, rfl⟩
      replace hsem := i1F_d hsem; obtain ⟨x, r, rfl, hsem⟩ := hsem
      by_cases hlo : x.toInt < lo
      · exact lv_tableOut hx hb hd (Or.inl hlo) (sn_pl o2) (go (hsem.2 (Or.inl hlo)) hc1 hc2 hWd hS hL)
      · by_cases hhi : hi < x.toInt
        · exact lv_tableOut hx hb hd (Or.inr hhi) (sn_pl o2) (go (hsem.2 (Or.inr hhi)) hc1 hc2 hWd hS hL)
        · have hlt : (x.toInt - lo).toNat < os.toList.length := by omega
          have hg : os.toList[(x.toInt - lo).toNat]? = some (os.toList[(x.toInt - lo).toNat]'hlt) := List.getElem?_eq_getElem hlt
          have hpos := List.all_eq_true.mp o3 _ (List.mem_of_getElem? hg)
          simp only [decide_eq_true_eq] at hpos
          refine lv_tableIn hx hb hd hlo hhi (by rw [← Array.getElem?_toList]; exact hg) (sn_pl hpos) (go (sn_tswM _ _ hsem.1 _ _ hg (by omega)) hc1 hc2 hWd hS hL)
    | lookupswitch d ps =>
      simp only [okB, Bool.and_eq_true, decide_eq_true_eq] at hok
      obtain ⟨⟨⟨o1, o2⟩, o3⟩, o4⟩ := hok
      obtain ⟨len, hd⟩ : ∃ len, decode (sn_mB m) pc = .ok (.lookupswitch d ps, len) := by
        revert o1
        cases decode (sn_mB m) pc with
        | error => simp
        | ok q => obtain ⟨j, len⟩ := q; intro o1; simp at o1; subst o1; exact ⟨len, rfl⟩
      replace hsem := i1F_d hsem; obtain ⟨x, r, rfl, hsem⟩ := hsem
      refine lv_lookup hx hb hd o4 rfl (sn_pl ?_) (go (sn_lswM _ hsem) hc1 hc2 hWd hS hL)
      exact sn_lswP (P := fun o => 0 ≤ (pc : Int) + o) o2 _ (fun q hq => by simpa using List.all_eq_true.mp o3 q hq)
    | getfield n =>
      simp only [okB, Bool.and_eq_true] at hok
      replace hsem := r1F_d hsem; obtain ⟨q1, r, rfl, hk, hsem⟩ := hsem
      obtain ⟨f1, f2, f3⟩ := sn_flD hok.2
      have had := (sn_lt hWd hk (by omega) (by simp)).2
      show W p l e R s mid args below meth cc H locs c.1 c.2 Qs (F0 mid pc ls (.ref (sn_ad b base q1) :: r.map (sn_cv b base)))
      rw [had]
      refine sn_get hx hb hts hown hKs hWd f1 f2 hk (hts _ f3) (sn_dcD hok.1) ?_
      unfold sn_fv
      cases hf : sn_fR a b1 with
      | true =>
        rw [hf] at hsem
        obtain ⟨q2, hq2, hsem⟩ := hsem
        rw [hq2]
        exact go hsem hc1 hc2 hWd hS hL
      | false =>
        rw [hf] at hsem
        exact go hsem hc1 hc2 hWd hS hL
    | putfield n =>
      simp only [okB, Bool.and_eq_true] at hok
      replace hsem := v1F_d hsem; obtain ⟨v, st1, rfl, hsem⟩ := hsem
      replace hsem := r1F_d hsem; obtain ⟨q1, r, rfl, hk, hsem⟩ := hsem
      obtain ⟨f1, f2, f3⟩ := sn_flD hok.1.2
      have had := (sn_lt hWd hk (by omega) (by simp)).2
      have hfin : sn_ff a b1 = true → meth.name = "<init>" ∧ sn_oN (sn_mO m) = sn_oN a := fun hf => by
        have h2 := hok.2
        rw [hf] at h2
        simp only [cond_true, Bool.and_eq_true, decide_eq_true_eq] at h2
        exact ⟨hinit h2.1, by rw [h2.2]⟩
      obtain ⟨g1, g2, g3, g4, g5, g6, g7, g8, g9, g10⟩ := sn_cls a f1
      show W p l e R s mid args below meth cc H locs c.1 c.2 Qs (F0 mid pc ls (sn_cv b base v :: .ref (sn_ad b base q1) :: r.map (sn_cv b base)))
      rw [had]
      cases v with
      | int x =>
        refine sn_put (h' := setG h q1 b1 x) (v := .int x) hx hb hts hown hKs hWd hS f1 f2 hk (hts _ f3) hfin ?_ ?_ ?_ rfl (fun _ => rfl) (fun y j hy => ?_) (fun _ _ _ => rfl) (sn_dcD hok.1.1) (fun H1 locs1 hW1 hS1 => go hsem.2 hc1 hc2 hW1 hS1 hL)
        · unfold sn_fv
          rw [hsem.1]
          show Value.int (if q1 = q1 ∧ b1 = b1 then x else _) = _
          rw [if_pos ⟨rfl, rfl⟩]
        · rw [g9 b1 f2 hsem.1]; rfl
        · rw [g9 b1 f2 hsem.1]; rfl
        · exact if_neg hy
      | ref q2 =>
        obtain ⟨k1, k2, k3⟩ := g8 b1 f2 hsem.1
        have hty : (∃ n, sn_tyc a b1 = .object n) ∨ (∃ t, sn_tyc a b1 = .array t) := by
          revert k3
          cases sn_tyc a b1 with
          | object n => exact fun _ => Or.inl ⟨n, rfl⟩
          | array t => exact fun _ => Or.inr ⟨t, rfl⟩
          | _ => simp [fits]
        refine sn_put (h' := setR h q1 b1 q2) (v := .ref (sn_ad b base q2)) hx hb hts hown hKs hWd hS f1 f2 hk (hts _ f3) hfin ?_ ?_ ?_ rfl (fun _ => rfl) (fun _ _ _ => rfl) (fun y j hy => ?_) (sn_dcD hok.1.1) (fun H1 locs1 hW1 hS1 => go hsem.2 hc1 hc2 hW1 hS1 hL)
        · unfold sn_fv
          rw [hsem.1]
          have : hR (setR h q1 b1 q2) q1 b1 = some q2 := if_pos ⟨rfl, rfl⟩
          rw [this]
        · rcases hty with ⟨n, hn⟩ | ⟨t, hn⟩ <;> rw [hn] <;> rfl
        · rcases hty with ⟨n, hn⟩ | ⟨t, hn⟩ <;> rw [hn] <;> rfl
        · exact if_neg hy
      | _ => exact hsem.elim
    | iaload =>
      replace hsem := irF_d hsem; obtain ⟨i, q1, r, rfl, x, n, hk, hin, hsem⟩ := hsem
      show W p l e R s mid args below meth cc H locs c.1 c.2 Qs (F0 mid pc ls (.int i :: .ref (sn_ad b base q1) :: r.map (sn_cv b base)))
      by_cases hq0 : q1 = 0
      · subst hq0
        have hk0 := hWd.2.2.2.2.1
        rw [hk] at hk0
        have hn : n = Ls := by simp at hk0; exact hk0.2
        subst hn
        have hlt : i.toNatClampNeg < n := Nat.not_le.mp fun q => hin (Or.inr q)
        refine va_sld (b := b) hx hb hX (by omega) (by omega) hS hin (sn_dcD hok) ?_
        rw [← hWd.2.2.2.2.2 _ hlt]
        exact go hsem hc1 hc2 hWd hS hL
      · have hq : 0 < q1 ∧ q1 < hN h := ⟨Nat.pos_of_ne_zero hq0, by
          rcases Nat.lt_or_ge q1 (hN h) with q | q
          · exact q
          · have := (hWd.2.2.2.1 q1).1 q
            rw [hk] at this
            simp at this⟩
        have had : sn_ad b base q1 = base + q1 := by unfold sn_ad; rw [if_neg hq0]
        rw [had]
        have he := sn_ws_get (b := b) (base := base) (cs := cs) hq
        have hcell : sn_cell b base cs h q1 = .inl (cs 1, n, .inl (hG h q1)) := by unfold sn_cell; rw [hk]; rfl
        rw [hcell] at he
        exact va_iald hx hb hKs.1 hWd.2.2.1 _ 0 he rfl hin (sn_dcD hok) (go hsem hc1 hc2 hWd hS hL)
    | caload =>
      replace hsem := irF_d hsem; obtain ⟨i, q1, r, rfl, n, hk, hin, hsem⟩ := hsem
      obtain ⟨hq, had⟩ := sn_lt hWd hk (by omega) (by simp)
      show W p l e R s mid args below meth cc H locs c.1 c.2 Qs (F0 mid pc ls (.int i :: .ref (sn_ad b base q1) :: r.map (sn_cv b base)))
      rw [had]
      have he := sn_ws_get (b := b) (base := base) (cs := cs) hq
      rw [sn_cell_c hk] at he
      exact va_cald hx hb hKs.1 hWd.2.2.1 _ 1 he rfl hin (sn_dcD hok) (go hsem hc1 hc2 hWd hS hL)
    | aaload =>
      replace hsem := irF_d hsem; obtain ⟨i, q1, r, rfl, ci, n, q2, hk, hin, hq2, hsem⟩ := hsem
      obtain ⟨hq, had⟩ := sn_lt hWd hk (by omega) (by simp)
      show W p l e R s mid args below meth cc H locs c.1 c.2 Qs (F0 mid pc ls (.int i :: .ref (sn_ad b base q1) :: r.map (sn_cv b base)))
      rw [had]
      have he := sn_ws_get (b := b) (base := base) (cs := cs) hq
      rw [sn_cell_q hk] at he
      refine va_aldq hx hb hKs.1 hWd.2.2.1 _ 2 he rfl hin (sn_dcD hok) ?_
      simp only [hq2, Option.map_some]
      exact go hsem hc1 hc2 hWd hS hL
    | iastore =>
      replace hsem := virF_d hsem; obtain ⟨v, i, q1, r, rfl, hsem⟩ := hsem
      cases v with
      | int x =>
        obtain ⟨n, hk, hin, hsem⟩ := hsem
        have had := (sn_lt hWd hk (by omega) (by simp)).2
        show W p l e R s mid args below meth cc H locs c.1 c.2 Qs (F0 mid pc ls (.int x :: .int i :: .ref (sn_ad b base q1) :: r.map (sn_cv b base)))
        rw [had]
        exact sn_iast hx hb hKs hWd hS hk hin (sn_dcD hok) (fun H1 locs1 hW1 hS1 => go hsem hc1 hc2 hW1 hS1 hL)
      | _ => exact hsem.elim
    | castore =>
      replace hsem := virF_d hsem; obtain ⟨v, i, q1, r, rfl, hsem⟩ := hsem
      cases v with
      | int x =>
        obtain ⟨n, hk, hin, hsem⟩ := hsem
        have had := (sn_lt hWd hk (by omega) (by simp)).2
        show W p l e R s mid args below meth cc H locs c.1 c.2 Qs (F0 mid pc ls (.int x :: .int i :: .ref (sn_ad b base q1) :: r.map (sn_cv b base)))
        rw [had]
        exact sn_cast hx hb hKs hWd hS hk hin (sn_dcD hok) (fun H1 locs1 hW1 hS1 => go hsem hc1 hc2 hW1 hS1 hL)
      | _ => exact hsem.elim
    | aastore =>
      replace hsem := virF_d hsem; obtain ⟨v, i, q1, r, rfl, hsem⟩ := hsem
      cases v with
      | ref q2 =>
        obtain ⟨ci, n, hk, hv, hin, hsem⟩ := hsem
        have hci : ci = 1 := by
          have := (hWd.2.2.2.1 q1).2
          rw [hk] at this
          exact this rfl
        subst hci
        have had := (sn_lt hWd hk (by omega) (by simp)).2
        have had2 := (sn_lt hWd hv (by omega) (by simp)).2
        show W p l e R s mid args below meth cc H locs c.1 c.2 Qs (F0 mid pc ls (.ref (sn_ad b base q2) :: .int i :: .ref (sn_ad b base q1) :: r.map (sn_cv b base)))
        rw [had, had2]
        exact sn_aast hx hb hKs hWd hS hk hv hin (sn_dcD hok) (fun H1 locs1 hW1 hS1 => go hsem hc1 hc2 hW1 hS1 hL)
      | _ => exact hsem.elim
    | arraylength =>
      replace hsem := r1F_d hsem; obtain ⟨q1, r, rfl, x, n, hk, hsem⟩ := hsem
      show W p l e R s mid args below meth cc H locs c.1 c.2 Qs (F0 mid pc ls (.ref (sn_ad b base q1) :: r.map (sn_cv b base)))
      by_cases hq0 : q1 = 0
      · subst hq0
        have hk0 := hWd.2.2.2.2.1
        rw [hk] at hk0
        have hn : n = Ls := by simp at hk0; exact hk0.2
        rw [hn] at hsem
        exact va_slen (b := b) hx hb hX (by omega) (by omega) hS (sn_dcD hok) (go hsem hc1 hc2 hWd hS hL)
      · have hq : 0 < q1 ∧ q1 < hN h := ⟨Nat.pos_of_ne_zero hq0, by
          rcases Nat.lt_or_ge q1 (hN h) with q | q
          · exact q
          · have := (hWd.2.2.2.1 q1).1 q
            rw [hk] at this
            simp at this⟩
        have had : sn_ad b base q1 = base + q1 := by unfold sn_ad; rw [if_neg hq0]
        rw [had]
        have he := sn_ws_get (b := b) (base := base) (cs := cs) hq
        have hcell : sn_cell b base cs h q1 = .inl (cs 1, n, .inl (hG h q1)) := by unfold sn_cell; rw [hk]; rfl
        rw [hcell] at he
        exact va_alen hx hb hKs.1 hWd.2.2.1 _ 0 he (ty := .int) rfl rfl (sn_dcD hok) (go hsem hc1 hc2 hWd hS hL)
    | new n =>
      simp only [okB, Bool.and_eq_true, decide_eq_true_eq] at hok
      obtain ⟨k1, k2, hsem⟩ := hsem
      have g1 : c.1 + 1 ≤ R.cells := by rw [hRc]; exact k1
      have g2 : c.2 + sn_fN a ≤ R.slots := by rw [hRs]; exact k2
      have had : sn_ad b base (hN h) = base + hN h := by unfold sn_ad; rw [if_neg (by have := hWd.2.1; omega)]
      refine sn_new hx hb hts hown hok.2 (hts _ (sn_klD hok.1.2)) hKs hWd hS g1 g2 (sn_dcD hok.1.1) (fun H1 hW1 hS1 => ?_)
      rw [← had]
      exact go hsem g1 g2 hW1 hS1 hL
    | newarray t =>
      simp only [okB, Bool.and_eq_true, Bool.or_eq_true, decide_eq_true_eq] at hok
      replace hsem := i1F_d hsem; obtain ⟨x, r, rfl, n, rfl, k0, k1, k2, hsem⟩ := hsem
      have g1 : c.1 + 1 ≤ R.cells := by rw [hRc]; exact k1
      have g2 : c.2 + n ≤ R.slots := by rw [hRs]; exact k2
      have had : sn_ad b base (hN h) = base + hN h := by unfold sn_ad; rw [if_neg (by have := hWd.2.1; omega)]
      refine sn_newI hx hb hok.2 ?_ hKs hWd hS k0 g1 g2 (sn_dcD hok.1) (fun H1 hW1 hS1 => ?_)
      · rcases hok.2 with ⟨rfl, -⟩ | ⟨rfl, -⟩
        · exact hts _ (sn_tb _ sn_ar_ok.1 rfl)
        · exact hts _ (sn_tb _ sn_ar_ok.2.1 rfl)
      · rw [← had]
        exact go hsem g1 g2 hW1 hS1 hL
    | anewarray n =>
      simp only [okB, Bool.and_eq_true, decide_eq_true_eq] at hok
      replace hsem := i1F_d hsem; obtain ⟨x, r, rfl, n1, rfl, k0, k1, k2, hsem⟩ := hsem
      have g1 : c.1 + 1 ≤ R.cells := by rw [hRc]; exact k1
      have g2 : c.2 + n1 ≤ R.slots := by rw [hRs]; exact k2
      have had : sn_ad b base (hN h) = base + hN h := by unfold sn_ad; rw [if_neg (by have := hWd.2.1; omega)]
      obtain ⟨⟨o1, o2⟩, o3⟩ := hok
      subst o3
      refine sn_newQ hx hb hown (hts _ (sn_klD o2)) hKs hWd hS k0 g1 g2 (sn_dcD o1) (fun H1 hW1 hS1 => ?_)
      rw [← had]
      exact go hsem g1 g2 hW1 hS1 hL
    | invokestatic n =>
      dsimp only at hsem
      simp only [okB, Bool.and_eq_true] at hok
      obtain ⟨o1, o2⟩ := hok
      have hd := sn_dcD o1
      cases h9 : Nat.beq a 9999 with
      | true =>
        rw [h9] at o2
        rw [h9] at hsem
        dsimp only at hsem
        simp only [cond_true, Bool.and_eq_true, decide_eq_true_eq] at o2
        obtain ⟨⟨p1, p2⟩, p3⟩ := o2
        split at hsem
        · rename_i n9 d9 pb s9 pa r
          obtain ⟨s', d', n', na, nb, rfl, rfl, rfl, z1, z2, z3, ka, kb, z4, z5, z6, hsem⟩ := hsem
          have ha1 := (sn_lt hWd ka (by omega) (by simp)).2
          have ha2 := (sn_lt hWd kb (by omega) (by simp)).2
          show W p l e R s mid args below meth cc H locs c.1 c.2 Qs (F0 mid pc ls (.int (nI n') :: .int (nI d') :: .ref (sn_ad b base pb) :: .int (nI s') :: .ref (sn_ad b base pa) :: r.map (sn_cv b base)))
          rw [ha1, ha2]
          refine sn_copy hx hb (by rw [hml]; exact hL.1.symm) hown (hts _ (sn_alD sn_al_ok p1)) (hts _ (sn_tb _ sn_ac_ok.2.1 rfl)) (hts _ (sn_tb _ sn_ac_ok.1 rfl)) (hts _ (sn_tb _ sn_ac_ok.2.2 rfl)) hKs hWd hS z1 z2 z3 ka kb z4 z5 (by omega) ?_ hd (fun H1 locs1 hW1 hS1 => go hsem hc1 hc2 hW1 hS1 hL)
          rw [sn_cats]
          have : nativeFrameWords "java/lang/System" "arraycopy" 5 = 7 := by decide +kernel
          rw [this]
          omega
        · exact hsem.elim
      | false =>
        rw [h9] at o2
        rw [h9] at hsem
        dsimp only at hsem
        simp only [cond_false] at o2
        cases h7 : Nat.beq a 9997 with
        | true =>
          rw [h7] at o2
          rw [h7] at hsem
          dsimp only at hsem
          simp only [cond_true, Bool.and_eq_true, decide_eq_true_eq] at o2
          obtain ⟨⟨p1, p2⟩, p3⟩ := o2
          replace hsem := i2F_d hsem; obtain ⟨x, y, r, rfl, z1, hsem⟩ := hsem
          refine va_mmin hx hb (by rw [hml]; exact hL.1.symm) hown (hts _ (sn_alD sn_nl_ok p1)) (hts _ (sn_tb _ sn_nc_ok.1 rfl)) (hts _ (sn_tb _ sn_nc_ok.2.1 rfl)) (hts _ (sn_tb _ sn_nc_ok.2.2 rfl)) (by omega) ?_ hc1 hc2 hd (go hsem hc1 hc2 hWd hS hL)
          show ((r.map (sn_cv b base)).map fun v => v.category).sum + 13 ≤ R.locals
          rw [sn_cats]
          omega
        | false =>
          rw [h7] at o2
          rw [h7] at hsem
          dsimp only at hsem
          simp only [cond_false, Bool.and_eq_true, decide_eq_true_eq] at o2
          obtain ⟨⟨⟨p1, p2⟩, p3⟩, p4⟩ := o2
          obtain ⟨r1, r2, hy⟩ := sn_rmD p3
          split at hsem
          · exact hsem.elim
          · rename_i as r hpop
            obtain ⟨z1, z2, z3, hlen, hsim⟩ := hsem
            obtain ⟨f, e1, e2, e3⟩ := popF_d hpop
            rw [List.append_nil] at e2
            subst e1
            subst e2
            obtain ⟨m1, m2, m3, m4, m5, m6, m7, m8, m9, m10⟩ := sn_meth hy
            rw [p4] at m5 m8
            have hM := sn_met hy l hbb hlen hsim
            have hn1 : (f.reverse.map (sn_cv b base)).length = sn_NA a := by simp [e3]
            have hst1 : (f ++ r).map (sn_cv b base) = (f.reverse.map (sn_cv b base)).reverse ++ r.map (sn_cv b base) := by simp
            have g1 : c.1 + sn_mc a ≤ R.cells := by rw [hRc]; exact z2
            have g2 : c.2 + sn_ms a ≤ R.slots := by rw [hRs]; exact z3
            have hini := hts _ (sn_tb _ m1 rfl)
            have hroom : (sn_rmy a).frames + 1 ≤ R.frames ∧ 8 + (sn_mL a + 11) + (sn_rmy a).locals ≤ R.locals := ⟨Nat.le_trans r1 hfr, Nat.le_trans r2 hlo⟩
            obtain ⟨lk1, lk2⟩ := sn_lkD p1
            have fin : va_Run p l e R s mid args below meth cc H locs c.1 c.2 (sn_mc a) (sn_ms a) (F0 mid pc ls ((f ++ r).map (sn_cv b base))) (r.map (sn_cv b base)) (sn_Qc b base Ls xs D cs (fun v h' => sn_SIM b base Ls xs D cs m (pc + 3) L (v.toList ++ r) h' (c.1 + sn_mc a, c.2 + sn_ms a) Q) (f.reverse.map (sn_cv b base)).toArray) (fun q => base < q) := by
              rcases Nat.eq_zero_or_pos b1 with hb0 | hb0
              · exact va_runS (As := f.reverse.map (sn_cv b base)) (rest := r.map (sn_cv b base)) ⟨hx, hb, hml, hown, hts⟩ hM ⟨callB_of (sn_NA a) hts (sn_good hy) rfl rfl rfl hini (hts _ (lk1 hb0)) ⟨m3.1, m3.2, m5⟩ hroom, hts _ (sn_tb _ m8 rfl)⟩ ⟨sn_pre, fun U hU hW => sn_preU hKs hX hbb hsz hWd hS hU hW⟩ rfl hn1 hL.1 hst1 (lv_room (by rw [sn_cats]; exact z1)) hd ⟨g1, g2⟩
              · exact va_runSN (As := f.reverse.map (sn_cv b base)) (rest := r.map (sn_cv b base)) ⟨hx, hb, hml, hown, hts⟩ hM ⟨va_cnB (sn_NA a) hts (sn_good hy) rfl rfl rfl (lk2 (by omega) hKs) hini ⟨m3.1, m3.2, m5⟩ hroom, hts _ (sn_tb _ m8 rfl), trivial⟩ ⟨sn_pre, fun U hU hW => sn_preU hKs hX hbb hsz hWd hS hU hW⟩ rfl hn1 hL.1 hst1 (lv_room (by rw [sn_cats]; exact z1)) hd ⟨g1, g2⟩
            refine sn_callx fin hS (fun v h' H1 locs1 hQ hW1 hS1 => ?_)
            rw [← sn_toL]
            exact go hQ g1 g2 hW1 hS1 hL
    | invokespecial n =>
      dsimp only at hsem
      simp only [okB, Bool.and_eq_true] at hok
      obtain ⟨o1, o2⟩ := hok
      have hd := sn_dcD o1
      cases h9 : Nat.beq a 9998 with
      | true =>
        rw [h9] at o2
        rw [h9] at hsem
        dsimp only at hsem
        simp only [cond_true, Bool.and_eq_true, decide_eq_true_eq] at o2
        obtain ⟨⟨p1, p2⟩, p3⟩ := o2
        replace hsem := r1F_d hsem; obtain ⟨q1, r, rfl, z1, hsem⟩ := hsem
        refine W.objInit hx hb hown (hts _ (sn_alD sn_ol_ok p1)) (hts _ (sn_tb _ sn_oc_ok.1 rfl)) (hts _ (sn_tb _ sn_oc_ok.2 rfl)) rfl (by rw [hml]; exact hL.1) (a := sn_ad b base q1) (rest := r.map (sn_cv b base)) rfl hd (by omega) ?_ (go hsem hc1 hc2 hWd hS hL)
        show 2 * 0 + ((r.map (sn_cv b base)).map fun v => v.category).sum + 12 ≤ R.locals
        rw [sn_cats]
        omega
      | false =>
        rw [h9] at o2
        rw [h9] at hsem
        dsimp only at hsem
        simp only [cond_false, Bool.and_eq_true, Bool.not_eq_true', decide_eq_true_eq] at o2
        obtain ⟨⟨⟨⟨p1, p2⟩, p3⟩, p4⟩, p5⟩ := o2
        obtain ⟨r1, r2, hy⟩ := sn_rmD p3
        split at hsem
        · rename_i q1 as r hpop
          obtain ⟨z1, z2, z3, hlen, hsim⟩ := hsem
          obtain ⟨f, e1, e2, e3⟩ := popF_d hpop
          rw [List.append_nil] at e2
          subst e1
          obtain ⟨m1, m2, m3, m4, m5, m6, m7, m8, m9, m10⟩ := sn_meth hy
          rw [p4] at m5 m8
          have hM := sn_met hy l hbb hlen hsim
          have hf : f = as.reverse ++ [.ref q1] := by
            have := congrArg List.reverse e2
            simpa using this.symm
          have hn1 : (as.map (sn_cv b base)).length = sn_NA a - 1 := by
            rw [hf] at e3
            simp at e3
            simp; omega
          have hst1 : (f ++ r).map (sn_cv b base) = (as.map (sn_cv b base)).reverse ++ .ref (sn_ad b base q1) :: r.map (sn_cv b base) := by
            rw [hf]; simp [sn_cv]
          have g1 : c.1 + sn_mc a ≤ R.cells := by rw [hRc]; exact z2
          have g2 : c.2 + sn_ms a ≤ R.slots := by rw [hRs]; exact z3
          have hini := hts _ (sn_tb _ m1 rfl)
          have hroom : (sn_rmy a).frames + 1 ≤ R.frames ∧ 8 + (sn_mL a + 11) + (sn_rmy a).locals ≤ R.locals := ⟨Nat.le_trans r1 hfr, Nat.le_trans r2 hlo⟩
          obtain ⟨lk1, lk2⟩ := sn_lkD p1
          have hgd := sn_good hy
          unfold sn_wsy at hM hgd
          rw [m7 p5] at hM hgd
          have fin : va_Run p l e R s mid args below meth cc H locs c.1 c.2 (sn_mc a) (sn_ms a) (F0 mid pc ls ((f ++ r).map (sn_cv b base))) (r.map (sn_cv b base)) (sn_Qc b base Ls xs D cs (fun v h' => sn_SIM b base Ls xs D cs m (pc + 3) L (v.toList ++ r) h' (c.1 + sn_mc a, c.2 + sn_ms a) Q) (Value.ref (sn_ad b base q1) :: as.map (sn_cv b base)).toArray) (fun q => base < q) := by
            rcases Nat.eq_zero_or_pos b1 with hb0 | hb0
            · exact va_runI (As := as.map (sn_cv b base)) (rest := r.map (sn_cv b base)) (b := sn_ad b base q1) ⟨hx, hb, hml, hown, hts⟩ hM ⟨callB_of (sn_NA a - 1) hts hgd rfl rfl rfl hini (hts _ (lk1 hb0)) ⟨m3.1, m3.2, m5⟩ hroom, p5, hts _ (sn_tb _ m8 rfl)⟩ ⟨sn_pre, fun U hU hW => sn_preU (as := .ref q1 :: as) hKs hX hbb hsz hWd hS hU hW⟩ rfl hn1 hL.1 hst1 (lv_room (by rw [sn_cats]; exact z1)) hd ⟨g1, g2⟩
            · exact va_runIN (As := as.map (sn_cv b base)) (rest := r.map (sn_cv b base)) (b := sn_ad b base q1) ⟨hx, hb, hml, hown, hts⟩ hM ⟨va_cnB (sn_NA a - 1) hts hgd rfl rfl rfl (lk2 (by omega) hKs) hini ⟨m3.1, m3.2, m5⟩ hroom, p5, hts _ (sn_tb _ m8 rfl)⟩ ⟨sn_pre, fun U hU hW => sn_preU (as := .ref q1 :: as) hKs hX hbb hsz hWd hS hU hW⟩ rfl hn1 hL.1 hst1 (lv_room (by rw [sn_cats]; exact z1)) hd ⟨g1, g2⟩
          refine sn_callx fin hS (fun v h' H1 locs1 hQ hW1 hS1 => ?_)
          rw [← sn_toL]
          exact go hQ g1 g2 hW1 hS1 hL
        · exact hsem.elim
    | invokevirtual n =>
      simp only [okB, Bool.and_eq_true, Bool.not_eq_true', decide_eq_true_eq] at hok
      obtain ⟨⟨⟨⟨⟨o1, p1⟩, p3⟩, p4⟩, p5⟩, p6⟩ := hok
      have hd := sn_dcD o1
      obtain ⟨r1, r2, hy⟩ := sn_rmD p3
      dsimp only at hsem
      split at hsem
      · rename_i q1 as r hpop
        obtain ⟨hk, z1, z2, z3, hlen, hsim⟩ := hsem
        obtain ⟨f, e1, e2, e3⟩ := popF_d hpop
        rw [List.append_nil] at e2
        subst e1
        obtain ⟨m1, m2, m3, m4, m5, m6, m7, m8, m9, m10⟩ := sn_meth hy
        rw [p4] at m5 m8
        have hM := sn_met hy l hbb hlen hsim
        have hf : f = as.reverse ++ [.ref q1] := by
          have := congrArg List.reverse e2
          simpa using this.symm
        have hn1 : (as.map (sn_cv b base)).length = sn_NA a - 1 := by
          rw [hf] at e3
          simp at e3
          simp; omega
        obtain ⟨hq, had⟩ := sn_lt hWd hk (by omega) (by simp)
        have hst1 : (f ++ r).map (sn_cv b base) = (as.map (sn_cv b base)).reverse ++ .ref (base + q1) :: r.map (sn_cv b base) := by
          rw [hf]; simp [sn_cv, had]
        have g1 : c.1 + sn_mc a ≤ R.cells := by rw [hRc]; exact z2
        have g2 : c.2 + sn_ms a ≤ R.slots := by rw [hRs]; exact z3
        have hini := hts _ (sn_tb _ m1 rfl)
        have hroom : (sn_rmy a).frames + 1 ≤ R.frames ∧ 8 + (sn_mL a + 11) + (sn_rmy a).locals ≤ R.locals := ⟨Nat.le_trans r1 hfr, Nat.le_trans r2 hlo⟩
        obtain ⟨lk1, lk2⟩ := sn_lkD p1
        obtain ⟨c1, c2, c3, c4, c5, c6, c7, c8, c9, c10⟩ := sn_cls (sn_mO a) p6
        have he := sn_ws_get (b := b) (base := base) (cs := cs) hq
        rw [sn_cell_o hk] at he
        obtain ⟨cellB, y1, y2, y3⟩ := va_recv hKs.1 hWd.2.2.1 c1 he
        rw [c2, ← m2] at y3
        have fin : va_Run p l e R s mid args below meth cc H locs c.1 c.2 (sn_mc a) (sn_ms a) (F0 mid pc ls ((f ++ r).map (sn_cv b base))) (r.map (sn_cv b base)) (sn_Qc b base Ls xs D cs (fun v h' => sn_SIM b base Ls xs D cs m (pc + 3) L (v.toList ++ r) h' (c.1 + sn_mc a, c.2 + sn_ms a) Q) (Value.ref (base + q1) :: as.map (sn_cv b base)).toArray) (fun q => base < q) :=
          va_runV (C := (sn_mY a).cls) (As := as.map (sn_cv b base)) (rest := r.map (sn_cv b base)) (b := base + q1) ⟨hx, hb, hml, hown, hts⟩ hM ⟨callB_of (sn_NA a - 1) hts (sn_good hy) rfl rfl rfl hini (hts _ (lk1 rfl)) ⟨m3.1, m3.2, m5⟩ hroom, hts _ (sn_tb _ m8 rfl), hts _ (sn_tb _ (m9 p4 p5) rfl)⟩ ⟨sn_pre, ⟨cellB, y1, y2, y3⟩, fun U hU hW => by
            have := sn_preU (as := .ref q1 :: as) hKs hX hbb hsz hWd hS hU hW
            rw [← had]
            exact this⟩ rfl hn1 hL.1 hst1 (lv_room (by rw [sn_cats]; exact z1)) hd ⟨g1, g2⟩
        refine sn_callx fin hS (fun v h' H1 locs1 hQ hW1 hS1 => ?_)
        rw [← sn_toL]
        exact go hQ g1 g2 hW1 hS1 hL
      · exact hsem.elim
    | ireturn =>
      dsimp only at hsem
      split at hsem
      · rename_i x
        have hd := sn_dcD hok
        split at hsem
        · rename_i hR
          exact hE (some (.int x)) h H locs c.1 c.2 pc ls [.int x] (Or.inl ⟨hd, x, rfl, rfl, .int, hR, rfl⟩) hsem hWd hS hc1 hc2
        · rename_i ty hR1 hR
          exact hE (some (.int x)) h H locs c.1 c.2 pc ls [.int x] (Or.inl ⟨hd, x, rfl, rfl, ty, hR, hsem.1⟩) hsem.2 hWd hS hc1 hc2
        · exact hsem.elim
      · exact hsem.elim
    | lreturn =>
      dsimp only at hsem
      split at hsem
      · rename_i x
        exact hE (some (.long x)) h H locs c.1 c.2 pc ls [.long x] (Or.inr (Or.inl ⟨sn_dcD hok, x, rfl, rfl, hsem.1⟩)) hsem.2 hWd hS hc1 hc2
      · exact hsem.elim
    | areturn =>
      dsimp only at hsem
      split at hsem
      · rename_i x
        exact hE (some (.ref x)) h H locs c.1 c.2 pc ls [.ref x] (Or.inr (Or.inr (Or.inl ⟨sn_dcD hok, x, rfl, rfl, hsem.1⟩))) hsem.2 hWd hS hc1 hc2
      · exact hsem.elim
    | return_ =>
      dsimp only at hsem
      split at hsem
      · exact hE none h H locs c.1 c.2 pc ls [] (Or.inr (Or.inr (Or.inr ⟨sn_dcD hok, rfl, rfl, hsem.1⟩))) hsem.2 hWd hS hc1 hc2
      · exact hsem.elim
    | _ => exact hsem.elim
