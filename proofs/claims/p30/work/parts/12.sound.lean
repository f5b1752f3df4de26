/-! ===== THE MACHINE OF PLACES IS SOUND: what wpE says of a method's code, the real machine does ===== -/
/-- an end of a method -/
def sn_rt (m pc : Nat) (st : List Value) (r : Option Value) : Prop :=
  (decode (sn_mB m) pc = .ok (.ireturn, 1) ∧ ∃ x, st = [.int x] ∧ r = some (.int x) ∧ ∃ ty, sn_mR m = some ty ∧ narrow ty (.int x) = .int x) ∨
  (decode (sn_mB m) pc = .ok (.lreturn, 1) ∧ ∃ x, st = [.long x] ∧ r = some (.long x) ∧ sn_mR m = some .long) ∨
  (decode (sn_mB m) pc = .ok (.areturn, 1) ∧ ∃ x, st = [.ref x] ∧ r = some (.ref x) ∧ sn_mR m = some (.array .int)) ∨
  (decode (sn_mB m) pc = .ok (.return_, 1) ∧ st = [] ∧ r = none ∧ sn_mR m = none)
/-- what stays in a frame of method m -/
def sn_FX (b base Ls : Nat) (xs : Nat → Int32) (D : va_G) (cs : Nat → ClassId) (p : Program) (R : Room) (s : State) (mid : MethodId) (args : Array Value) (meth : Method) (cc : Code) (m : Nat) : Prop :=
  p.tables.exec = Jvm.exec ∧ cc.code = sn_mB m ∧ cc.maxLocals = sn_mL m ∧ s.vm.findClass (sn_oN (sn_mO m)) = some mid.cls ∧ (∀ w ∈ sn_TB, w.before args s = true) ∧ ((sn_mY m).name = "<init>" → meth.name = "<init>") ∧
  sn_fr m ≤ R.frames ∧ sn_lo m ≤ R.locals ∧ R.cells = sn_mc m ∧ R.slots = sn_ms m ∧ sn_Ks D cs s ∧ va_X b Ls xs s s.heap ∧ b ≤ base ∧ base < s.heap.size
def sn_END (b base Ls : Nat) (xs : Nat → Int32) (D : va_G) (cs : Nat → ClassId) (p : Program) (l : Launch) (e : Env) (R : Room) (s : State) (mid : MethodId) (args : Array Value) (below : List Frame) (meth : Method) (cc : Code) (Qs : State → Prop) (m : Nat) (Q : Option Value → sn_H → Prop) : Prop :=
  ∀ (r : Option Value) (h' : sn_H) (H' : Heap) (locs' : List Loc) (c1 c2 pc' : Nat) (ls' : Array Slot) (st' : List Value), sn_rt m pc' st' r → Q r h' → sn_Wd b base Ls xs D cs h' H' → va_S (fun q => base < q) s.heap H' locs' → c1 ≤ R.cells → c2 ≤ R.slots →
    W p l e R s mid args below meth cc H' locs' c1 c2 Qs (F0 mid pc' ls' (st'.map (sn_cv b base)))
def sn_SIM (b base Ls : Nat) (xs : Nat → Int32) (D : va_G) (cs : Nat → ClassId) (m pc : Nat) (L : sn_L) (st : List Value) (h : sn_H) (c : Nat × Nat) (Q : Option Value → sn_H → Prop) : Prop :=
  ∀ (p : Program) (l : Launch) (e : Env) (R : Room) (s : State) (mid : MethodId) (args : Array Value) (below : List Frame) (meth : Method) (cc : Code) (H : Heap) (locs : List Loc) (ls : Array Slot) (Qs : State → Prop),
    sn_FX b base Ls xs D cs p R s mid args meth cc m → c.1 ≤ R.cells → c.2 ≤ R.slots → sn_Wd b base Ls xs D cs h H → va_S (fun q => base < q) s.heap H locs → lv_has ls (sn_mL m) (sn_as b base 0 L) →
    sn_END b base Ls xs D cs p l e R s mid args below meth cc Qs m Q → W p l e R s mid args below meth cc H locs c.1 c.2 Qs (F0 mid pc ls (st.map (sn_cv b base)))
/-- a callee's words -/
def sn_wsy (y : Nat) : List Jvm.Cond := Jvm.Cond.code (sn_mY y) (sn_mB y) (sn_mL y) (sn_mR y) :: sn_TB
def sn_rmy (y : Nat) : Room := { frames := sn_fr y, cells := sn_mc y, slots := sn_ms y, locals := sn_lo y }
theorem sn_good {y : Nat} (hy : y + 1 < sn_NM) : GoodIn sn_TB (sn_wsy y) := by
  intro w hw
  have key : ∀ w, w ∈ sn_TB → w ∈ sn_TB ∧ ((w.onTables && w.keeps) = true ∨ ∃ ty, w = .arrayClass ty) := fun w h => ⟨h, good_of_word (List.mem_filter.mp h).2⟩
  rcases List.mem_cons.mp hw with h | h
  · rw [h]
    exact key _ (sn_tb _ (sn_meth hy).2.2.2.2.2.2.2.2.2 rfl)
  · exact key _ h
/-- a callee's end -/
def sn_Qc (b base Ls : Nat) (xs : Nat → Int32) (D : va_G) (cs : Nat → ClassId) (Q : Option Value → sn_H → Prop) : Array Value → State → Outcome → State → Prop := fun _ st oc t => (∃ r h', oc = .returned (r.map (sn_cv b base)) ∧ Q r h' ∧ sn_Wd b base Ls xs D cs h' t.heap) ∧ va_F (fun q => base < q) st t
section SNC
variable {b base Ls : Nat} {xs : Nat → Int32} {D : va_G} {cs : Nat → ClassId}
theorem sn_sl_len : ∀ as : List Value, (lg_sl (as.map (sn_cv b base))).length = (slL as).length
  | [] => rfl
  | v :: t => by
    have e1 : lg_sl ((v :: t).map (sn_cv b base)) = (if (sn_cv b base v).category = 2 then [.val (sn_cv b base v), .second] else [.val (sn_cv b base v)]) ++ lg_sl (t.map (sn_cv b base)) := by
      unfold lg_sl; simp [List.flatMap_cons]
    have e2 : slL (v :: t) = some v :: (bif Nat.beq v.category 2 then none :: slL t else slL t) := rfl
    rw [e1, e2, List.length_append, sn_sl_len t, sn_cv_cat]
    cases hc : Nat.beq v.category 2 with
    | true => rw [if_pos (Nat.eq_of_beq_eq_true hc)]; simp only [cond_true, List.length_cons, List.length_nil]; omega
    | false => rw [if_neg (Nat.ne_of_beq_eq_false hc)]; simp only [cond_false, List.length_cons, List.length_nil]; omega
/-- a callee's contract -/
theorem sn_met {y : Nat} (hy : y + 1 < sn_NM) (l : Launch) {as : List Value} {h : sn_H} {Q : Option Value → sn_H → Prop} (hb : b ≤ base) (hlen : (slL as).length ≤ sn_mL y) (H : sn_SIM b base Ls xs D cs y 0 (entL y as) [] h (0, 0) Q) :
    Met l (sn_mY y) (sn_wsy y) (sn_rmy y) (va_Pc (as.map (sn_cv b base)) (fun U => sn_Wd b base Ls xs D cs h U.heap ∧ sn_Ks D cs U ∧ va_X b Ls xs U U.heap))
      (sn_Qc b base Ls xs D cs Q) (sn_mc y) (sn_ms y) (fun q => base < q) := by
  obtain ⟨m1, m2, m3, m4, m5, m6, m7, m8, m9, m10⟩ := sn_meth hy
  refine Met.ofW (cc := sn_mB y) (maxL := sn_mL y) (ret := sn_mR y) m4 rfl ?_
  intro p e s mid args below meth c s₁ B hml hv
  obtain ⟨rfl, hWd, hKs, hX⟩ := hv
  have hts := atoms_spec (ws := sn_wsy y) B.pre
  have hown : s.vm.findClass (sn_mY y).cls = some mid.cls := findClass_of_methodNamed B.named
  rw [m2] at hown
  have hlocks := B.notSynchronized
  have hr := B.returns
  have hx := B.exec
  have hbb := B.bytes
  have hnm := (name_of_methodNamed B.named B.method).1
  have hsz : base < s.heap.size := by have h1 := hWd.1; have h2 := hWd.2.1; omega
  have hsl := sn_sl_len (b := b) (base := base) as
  have hl := lv_entry (as.map (sn_cv b base)) (n := sn_mL y) (by rw [hsl]; exact hlen)
  have hl2 : lv_has ((lg_sl (as.map (sn_cv b base)) ++ List.replicate (sn_mL y - (lg_sl (as.map (sn_cv b base))).length) Slot.unset).toArray) (sn_mL y) (sn_as b base 0 (entL y as)) :=
    ⟨hl.1, hl.2.1, fun q hq => hl.2.2 q (sn_args hq)⟩
  rw [lg_entry_eq]
  refine H p l e _ s mid _ below meth c s.heap [] _ _ ⟨hx, hbb, hml, hown, fun w hw => hts w (List.mem_cons_of_mem _ hw), fun h1 => hnm.trans h1, Nat.le_refl _, Nat.le_refl _, rfl, rfl, hKs, hX, hb, hsz⟩ (Nat.zero_le _) (Nat.zero_le _) hWd va_S.rf hl2 ?_
  intro r h' H' locs' c1 c2 pc' ls' st' hrt hQ hW' hS' hc1 hc2
  refine W.widen (k := sn_mc y) (n := sn_ms y) hc1 hc2 ?_
  rcases hrt with ⟨hd, x, rfl, rfl, ty, hty, hn⟩ | ⟨hd, x, rfl, rfl, hty⟩ | ⟨hd, x, rfl, rfl, hty⟩ | ⟨hd, rfl, rfl, hty⟩
  · exact W.zret (v := x) hx hbb (hr.trans hty) hn (fun t ht hW => ⟨⟨_, h', rfl, hQ, by rw [ht]; exact hW'⟩, hS'.F ht⟩) hS'.2.2 hd
  · exact W.lret (v := x) hx hbb (hr.trans hty) (fun t ht hW => ⟨⟨_, h', rfl, hQ, by rw [ht]; exact hW'⟩, hS'.F ht⟩) hS'.2.2 hd
  · exact W.aret (v := .ref (sn_ad b base x)) hx hbb (hr.trans hty) (Or.inr ⟨_, rfl⟩) (Or.inr ⟨_, rfl⟩) (fun t ht hW => ⟨⟨_, h', rfl, hQ, by rw [ht]; exact hW'⟩, hS'.F ht⟩) hS'.2.2 hd
  · exact W.vret hx hbb (hr.trans hty) (fun t ht hW => ⟨⟨_, h', rfl, hQ, by rw [ht]; exact hW'⟩, hS'.F ht⟩) hS'.2.2 hd
theorem sn_pre {as : List Value} {h : sn_H} : FrameBlind (va_Pc (as.map (sn_cv b base)) (fun U => sn_Wd b base Ls xs D cs h U.heap ∧ sn_Ks D cs U ∧ va_X b Ls xs U U.heap)) := by
  intro a U g mk q
  obtain ⟨q0, q1, q2, q3⟩ := q
  exact ⟨q0, q1, sn_Ks.same (s := U) (U := U.calling g mk a) rfl q2, va_X.moved (u := U) (U := U.calling g mk a) (Vm.Alike.refl U.vm) q3⟩
theorem sn_preU {as : List Value} {h : sn_H} {s U : State} {H : Heap} {locs : List Loc} (hKs : sn_Ks D cs s) (hX : va_X b Ls xs s s.heap) (hb : b ≤ base) (hsz : base < s.heap.size) (hWd : sn_Wd b base Ls xs D cs h H) (hS : va_S (fun q => base < q) s.heap H locs) (hU : U.heap = H) (hW : s.WarmedH U.vm) :
    va_Pc (as.map (sn_cv b base)) (fun U => sn_Wd b base Ls xs D cs h U.heap ∧ sn_Ks D cs U ∧ va_X b Ls xs U U.heap) (as.map (sn_cv b base)).toArray U :=
  ⟨rfl, by rw [hU]; exact hWd, sn_Ks.warm hW hKs, va_X.moved hW.alike ((by rw [hU]; exact hX.kept (hS.2.1 b (by omega) (by omega))))⟩
theorem sn_toL (r : Option Value) (rest : List Value) : (r.toList ++ rest).map (sn_cv b base) = (r.map (sn_cv b base)).toList ++ rest.map (sn_cv b base) := by cases r <;> rfl
/-- behind a call -/
theorem sn_callx {p : Program} {l : Launch} {e : Env} {R : Room} {s : State} {m : MethodId} {args : Array Value} {below : List Frame} {meth : Method} {c : Code} {H : Heap} {locs : List Loc} {cells slots mc ms pc : Nat} {Qs : State → Prop} {ls : Array Slot} {rest : List Value} {st0 : List Value} {Q : Option Value → sn_H → Prop} {H0 : Heap} {a : Array Value}
    (hr : va_Run p l e R s m args below meth c H locs cells slots mc ms (F0 m pc ls st0) rest (sn_Qc b base Ls xs D cs Q a) (fun q => base < q)) (hS : va_S (fun q => base < q) H0 H locs)
    (kk : ∀ (r : Option Value) (h' : sn_H) (H1 : Heap) (locs1 : List Loc), Q r h' → sn_Wd b base Ls xs D cs h' H1 → va_S (fun q => base < q) H0 H1 locs1 → W p l e R s m args below meth c H1 locs1 (cells + mc) (slots + ms) Qs (F0 m (pc + 3) ls ((r.map (sn_cv b base)).toList ++ rest))) : W p l e R s m args below meth c H locs cells slots Qs (F0 m pc ls st0) := by
  intro T hT X
  obtain ⟨v, st₀, t, T', L, h0, X', hL, e1, e2, ⟨⟨r, h', hv, hQ, hW⟩, hz, hk⟩, st⟩ := hr T hT X
  have hv2 : v = r.map (sn_cv b base) := by injection hv
  subst hv2
  rw [h0] at hz hk
  obtain ⟨t2, a1, b1⟩ := kk r h' T'.heap (locs ++ L) hQ (by rw [e1]; exact hW) ⟨Nat.le_trans hS.1 (by rw [e1]; exact hz), fun q h1 h2 => by rw [e1, hk q (Nat.lt_of_lt_of_le h1 hS.1) h2]; exact hS.2.1 q h1 h2, fun q hq => by
      rcases List.mem_append.mp hq with h | h
      · exact hS.2.2 q h
      · exact hL q h⟩ T' rfl X'
  exact ⟨t2, st t2 a1, b1⟩
end SNC
