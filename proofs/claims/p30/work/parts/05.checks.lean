/-! ===== the tables are what the methods' bytes and the words say ===== -/
def sn_cT (ci : Nat) : vw_C := (sn_nth sn_cl ci).getD ("", sn_T0, 0)
def dcB (m pc : Nat) (i : Instr) (len : Nat) : Bool := decide (decode (sn_mB m) pc = .ok (i, len))
def sn_lkB (m idx a b : Nat) : Bool := decide ((sn_mO m, idx, a, b) ∈ sn_lk.map (fun q => (q.1, q.2.1, q.2.2.1, q.2.2.2.1)))
def sn_cnB (m idx a b : Nat) : Bool := decide ((sn_mO m, idx, a, b) ∈ sn_cnl.map (fun q => (q.1, q.2.1, q.2.2.1, q.2.2.2.1)))
def sn_flB (m idx a b : Nat) : Bool := decide ((sn_mO m, idx, a, b) ∈ sn_fl.map (fun q => (q.1, q.2.1, q.2.2.1, q.2.2.2.1))) && decide (a < sn_cl.length) && decide (b < sn_fN a)
def sn_rmB (m y : Nat) : Bool := decide (sn_fr y + 1 ≤ sn_fr m) && decide (8 + (sn_mL y + 11) + sn_lo y ≤ sn_lo m) && decide (y + 1 < sn_NM)
def okB (m pc : Nat) (e : sn_E) : Bool := match e with
  | (i, a, b) => match i with
    | .iconst n => dcB m pc (.iconst n) 1 && decide (Int32.ofInt n = kI a b)
    | .bipush n => dcB m pc (.bipush n) 2 && decide ((Int8.ofInt n).toInt32 = kI a b)
    | .sipush n => dcB m pc (.sipush n) 3 && decide ((Int16.ofInt n).toInt32 = kI a b)
    | .ldc n => dcB m pc (.ldc n) 2 && sn_cnB m n a b && decide (b ≤ 1)
    | .ldc_w n => dcB m pc (.ldc_w n) 3 && sn_cnB m n a b && decide (b ≤ 1)
    | .ldc2_w n => dcB m pc (.ldc2_w n) 3 && sn_cnB m n a 2
    | .iload_n k => dcB m pc (.iload_n k) 1
    | .iload k => dcB m pc (.iload k) 2
    | .lload_n k => dcB m pc (.lload_n k) 1
    | .lload k => dcB m pc (.lload k) 2
    | .aload_n k => dcB m pc (.aload_n k) 1
    | .aload k => dcB m pc (.aload k) 2
    | .istore_n k => dcB m pc (.istore_n k) 1
    | .istore k => dcB m pc (.istore k) 2
    | .astore_n k => dcB m pc (.astore_n k) 1
    | .astore k => dcB m pc (.astore k) 2
    | .lstore_n k => dcB m pc (.lstore_n k) 1
    | .lstore k => dcB m pc (.lstore k) 2
    | .iinc k n => dcB m pc (.iinc k n) 3 && decide (Int32.ofInt n = kI a b)
    | .goto o => dcB m pc (.goto o) 3 && decide ((pc : Int) + o = (a : Int))
    | .ifCond cc o => dcB m pc (.ifCond cc o) 3 && decide ((pc : Int) + o = (a : Int))
    | .if_icmp cc o => dcB m pc (.if_icmp cc o) 3 && decide ((pc : Int) + o = (a : Int))
    | .tableswitch d lo hi os => (match decode (sn_mB m) pc with
      | .ok (j, _) => decide (j = .tableswitch d lo hi os)
      | _ => false) && decide (0 ≤ (pc : Int) + d) && os.toList.all (fun o => decide (0 ≤ (pc : Int) + o)) && decide ((os.toList.length : Int) = hi - lo + 1)
    | .lookupswitch d ps => (match decode (sn_mB m) pc with
      | .ok (j, _) => decide (j = .lookupswitch d ps)
      | _ => false) && decide (0 ≤ (pc : Int) + d) && ps.toList.all (fun o => decide (0 ≤ (pc : Int) + o.2)) && (ps.toList.zip (ps.toList.drop 1)).all (fun (a, next) => a.1 < next.1)
    | .getfield n => dcB m pc (.getfield n) 3 && sn_flB m n a b
    | .putfield n => dcB m pc (.putfield n) 3 && sn_flB m n a b && (bif sn_ff a b then decide ((sn_mY m).name = "<init>") && decide (sn_mO m = a) else true)
    | .new n => dcB m pc (.new n) 3 && decide ((sn_mO m, n, a) ∈ sn_kl.map (fun q => (q.1, q.2.1, q.2.2.1))) && decide (a < sn_cl.length)
    | .anewarray n => dcB m pc (.anewarray n) 3 && decide ((sn_mO m, n, a) ∈ sn_kl.map (fun q => (q.1, q.2.1, q.2.2.1))) && decide (a = 1)
    | .newarray t => dcB m pc (.newarray t) 2 && ((decide (t = .int) && decide (a = 1)) || (decide (t = .char) && decide (a = 2)))
    | .invokestatic n => dcB m pc (.invokestatic n) 3 && (bif Nat.beq a 9999 then decide ((sn_mO m, n) ∈ sn_al.map (fun q => (q.1, q.2.1))) && decide (1 ≤ sn_fr m) && decide (26 ≤ sn_lo m) else bif Nat.beq a 9997 then decide ((sn_mO m, n) ∈ sn_nl.map (fun q => (q.1, q.2.1))) && decide (1 ≤ sn_fr m) && decide (21 ≤ sn_lo m) else sn_lkB m n a b && decide (b ≤ 1) && sn_rmB m a && sn_st a)
    | .invokespecial n => dcB m pc (.invokespecial n) 3 && (bif Nat.beq a 9998 then decide ((sn_mO m, n) ∈ sn_ol.map (fun q => (q.1, q.2.1))) && decide (1 ≤ sn_fr m) && decide (20 ≤ sn_lo m) else sn_lkB m n a b && decide (b ≤ 1) && sn_rmB m a && !(sn_st a) && decide ((sn_mY a).name = "<init>"))
    | .invokevirtual n => dcB m pc (.invokevirtual n) 3 && sn_lkB m n a 0 && sn_rmB m a && !(sn_st a) && decide ((sn_mY a).name ≠ "<init>") && decide (sn_mO a < sn_cl.length)
    | i => dcB m pc i 1
def okM (m : Nat) : Bool := (sn_ch m).all (fun l => l.all (fun q => okB m q.1 q.2))
theorem sn_nth_eq {α : Type} : ∀ (l : List α) (i : Nat), sn_nth l i = l[i]?
  | [], i => by simp [sn_nth]
  | a :: l, 0 => rfl
  | a :: l, i + 1 => by simpa [sn_nth] using sn_nth_eq l i
theorem sn_find_mem {pc : Nat} {e : sn_E} : ∀ {l : List (Nat × sn_E)}, sn_find pc l = some e → (pc, e) ∈ l
  | [], h => by simp [sn_find] at h
  | q :: l, h => by
    unfold sn_find at h
    cases hq : Nat.beq q.1 pc with
    | true =>
      rw [hq] at h
      have h1 : q.1 = pc := Nat.eq_of_beq_eq_true hq
      have h2 : q.2 = e := Option.some.inj h
      rw [← h1, ← h2]
      exact List.mem_cons_self
    | false =>
      rw [hq] at h
      exact List.mem_cons_of_mem _ (sn_find_mem h)
theorem sn_ok1 {m pc : Nat} {e : sn_E} (ho : okM m = true) (h : sn_cd m pc = some e) : okB m pc e = true := by
  unfold sn_cd at h
  have h1 := sn_find_mem h
  cases hl : sn_nth (sn_ch m) (pc / 8) with
  | none => rw [hl] at h1; cases h1
  | some l =>
    rw [hl] at h1
    rw [sn_nth_eq] at hl
    exact List.all_eq_true.mp (List.all_eq_true.mp ho l (List.mem_of_getElem? hl)) (pc, e) h1
