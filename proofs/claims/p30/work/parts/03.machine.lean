/-! ===== A MACHINE OF NUMBERED PLACES: the instructions of the methods over a heap of places; what it says is tied to the real machine in a later part ===== -/
abbrev sn_L : Type := List (Option Value)
/-- how many places; each one's kind (0 object: class, fields; 1 int array: 0, length; 2 char array; 3 boolean array; 4 references: class, length); references; numbers -/
abbrev sn_H : Type := Nat × (Nat → Nat × Nat × Nat) × (Nat → Nat → Option Nat) × (Nat → Nat → Int32)
def hN (h : sn_H) : Nat := h.1
def hK (h : sn_H) (p : Nat) : Nat × Nat × Nat := h.2.1 p
def hR (h : sn_H) (p k : Nat) : Option Nat := h.2.2.1 p k
def hG (h : sn_H) (p k : Nat) : Int32 := h.2.2.2 p k
def setG (h : sn_H) (p k : Nat) (v : Int32) : sn_H := (h.1, h.2.1, h.2.2.1, fun q j => if q = p ∧ j = k then v else h.2.2.2 q j)
def setR (h : sn_H) (p k r : Nat) : sn_H := (h.1, h.2.1, fun q j => if q = p ∧ j = k then some r else h.2.2.1 q j, h.2.2.2)
def allocH (h : sn_H) (kd : Nat × Nat × Nat) : sn_H := (h.1 + 1, fun q => if q = h.1 then kd else h.2.1 q, fun q j => if q = h.1 then none else h.2.2.1 q j, fun q j => if q = h.1 then 0 else h.2.2.2 q j)
def cpG (h : sn_H) (a s b d n : Nat) : sn_H := (h.1, h.2.1, h.2.2.1, fun q j => if q = b ∧ d ≤ j ∧ j < d + n then h.2.2.2 a (s + (j - d)) else h.2.2.2 q j)
def kI (a b : Nat) : Int32 := match b with
  | 0 => nI a
  | _ => -(nI a)
def kF (a b : Nat) (k : Int32 → Prop) : Prop := match b with
  | 0 => k (nI a)
  | _ => k (-(nI a))
def brF (c : ClassFile.Cond) (x y : Int32) (t f : Prop) : Prop := match c with
  | .eq => (x = y → t) ∧ (¬ x = y → f)
  | .ne => (¬ x = y → t) ∧ (x = y → f)
  | .lt => (x < y → t) ∧ (¬ x < y → f)
  | .ge => (y ≤ x → t) ∧ (¬ y ≤ x → f)
  | .gt => (y < x → t) ∧ (¬ y < x → f)
  | .le => (x ≤ y → t) ∧ (¬ x ≤ y → f)
def clrL (L : sn_L) : Nat → sn_L
  | 0 => L
  | j + 1 => match sn_nth L j with
    | some (some v) => bif Nat.beq v.category 2 then L.set j none else L
    | _ => L
def stL (L : sn_L) (i : Nat) (v : Value) : sn_L := (clrL L i).set i (some v)
def stLL (L : sn_L) (i : Nat) (v : Value) : sn_L := ((clrL L i).set i (some v)).set (i + 1) none
def ldF (L : sn_L) (i : Nat) (k : Value → Prop) : Prop := match sn_nth L i with
  | some (some v) => k v
  | _ => False
def i1F (st : List Value) (k : Int32 → List Value → Prop) : Prop := match st with
  | .int x :: r => k x r
  | _ => False
def i2F (st : List Value) (k : Int32 → Int32 → List Value → Prop) : Prop := match st with
  | .int y :: .int x :: r => k x y r
  | _ => False
def l2F (st : List Value) (k : Int64 → Int64 → List Value → Prop) : Prop := match st with
  | .long y :: .long x :: r => k x y r
  | _ => False
def r1F (st : List Value) (k : Nat → List Value → Prop) : Prop := match st with
  | .ref p :: r => k p r
  | _ => False
def v1F (st : List Value) (k : Value → List Value → Prop) : Prop := match st with
  | v :: r => k v r
  | _ => False
/-- index and array -/
def irF (st : List Value) (k : Int32 → Nat → List Value → Prop) : Prop := match st with
  | .int i :: .ref p :: r => k i p r
  | _ => False
/-- value, index and array -/
def virF (st : List Value) (k : Value → Int32 → Nat → List Value → Prop) : Prop := match st with
  | v :: .int i :: .ref p :: r => k v i p r
  | _ => False
def popF : Nat → List Value → List Value → Option (List Value × List Value)
  | 0, st, acc => some (acc, st)
  | n + 1, v :: st, acc => popF n st (v :: acc)
  | _ + 1, [], _ => none
def catsF (st : List Value) : Nat := (st.map fun v => v.category).sum
def tswF (x : Int32) (lo : Int) (K : Int → Prop) : List Int → Prop
  | [] => True
  | o :: l => (x.toInt = lo → K o) ∧ tswF x (lo + 1) K l
def lswF (x : Int32) (d : Int) (K : Int → Prop) : List (Int × Int) → Prop
  | [] => K d
  | q :: l => (x.toInt = q.1 → K q.2) ∧ (¬ x.toInt = q.1 → lswF x d K l)
def plF (pc : Nat) (o : Int) : Nat := ((pc : Int) + o).toNat
def semF (K KA : Nat → sn_L → List Value → sn_H → Nat × Nat → Prop) (C : Nat → List Value → sn_H → (Option Value → sn_H → Prop) → Prop) (Q : Option Value → sn_H → Prop) (m pc : Nat) (L : sn_L) (st : List Value) (h : sn_H) (c : Nat × Nat) : Prop :=
  match sn_cd m pc with
  | none => False
  | some (i, a, b) =>
    match i with
    | .iconst _ => kF a b fun v => K (pc + 1) L (.int v :: st) h c
    | .bipush _ => kF a b fun v => K (pc + 2) L (.int v :: st) h c
    | .sipush _ => kF a b fun v => K (pc + 3) L (.int v :: st) h c
    | .ldc _ => kF a b fun v => K (pc + 2) L (.int v :: st) h c
    | .ldc_w _ => kF a b fun v => K (pc + 3) L (.int v :: st) h c
    | .ldc2_w _ => K (pc + 3) L (.long (lN a) :: st) h c
    | .iload_n k => ldF L k fun v => match v with
      | .int x => K (pc + 1) L (.int x :: st) h c
      | _ => False
    | .iload k => ldF L k fun v => match v with
      | .int x => K (pc + 2) L (.int x :: st) h c
      | _ => False
    | .lload_n k => ldF L k fun v => match v with
      | .long x => K (pc + 1) L (.long x :: st) h c
      | _ => False
    | .lload k => ldF L k fun v => match v with
      | .long x => K (pc + 2) L (.long x :: st) h c
      | _ => False
    | .aload_n k => ldF L k fun v => match v with
      | .ref x => K (pc + 1) L (.ref x :: st) h c
      | _ => False
    | .aload k => ldF L k fun v => match v with
      | .ref x => K (pc + 2) L (.ref x :: st) h c
      | _ => False
    | .istore_n k => i1F st fun x r => (k : Nat) < sn_mL m ∧ K (pc + 1) (stL L k (.int x)) r h c
    | .istore k => i1F st fun x r => k < sn_mL m ∧ K (pc + 2) (stL L k (.int x)) r h c
    | .astore_n k => r1F st fun x r => (k : Nat) < sn_mL m ∧ K (pc + 1) (stL L k (.ref x)) r h c
    | .astore k => r1F st fun x r => k < sn_mL m ∧ K (pc + 2) (stL L k (.ref x)) r h c
    | .lstore_n k => v1F st fun v r => match v with
      | .long x => (k : Nat) + 1 < sn_mL m ∧ K (pc + 1) (stLL L k (.long x)) r h c
      | _ => False
    | .lstore k => v1F st fun v r => match v with
      | .long x => k + 1 < sn_mL m ∧ K (pc + 2) (stLL L k (.long x)) r h c
      | _ => False
    | .iinc k _ => ldF L k fun v => match v with
      | .int x => k < sn_mL m ∧ kF a b fun w => K (pc + 3) (stL L k (.int (x + w))) st h c
      | _ => False
    | .iadd => i2F st fun x y r => K (pc + 1) L (.int (x + y) :: r) h c
    | .isub => i2F st fun x y r => K (pc + 1) L (.int (x - y) :: r) h c
    | .imul => i2F st fun x y r => K (pc + 1) L (.int (x * y) :: r) h c
    | .irem => i2F st fun x y r => ¬ y = 0 ∧ K (pc + 1) L (.int (x - x / y * y) :: r) h c
    | .iand => i2F st fun x y r => K (pc + 1) L (.int (x &&& y) :: r) h c
    | .ior => i2F st fun x y r => K (pc + 1) L (.int (x ||| y) :: r) h c
    | .ixor => i2F st fun x y r => K (pc + 1) L (.int (x ^^^ y) :: r) h c
    | .ishl => i2F st fun x y r => K (pc + 1) L (.int (x <<< (y &&& 31)) :: r) h c
    | .ishr => i2F st fun x y r => K (pc + 1) L (.int (x >>> (y &&& 31)) :: r) h c
    | .iushr => i2F st fun x y r => K (pc + 1) L (.int (x.toUInt32 >>> (y.toUInt32 &&& Int32.toUInt32 31)).toInt32 :: r) h c
    | .ineg => i1F st fun x r => K (pc + 1) L (.int (-x) :: r) h c
    | .i2l => i1F st fun x r => K (pc + 1) L (.long x.toInt64 :: r) h c
    | .i2c => i1F st fun x r => K (pc + 1) L (.int (x.toUInt32 % 65536).toInt32 :: r) h c
    | .ladd => l2F st fun x y r => K (pc + 1) L (.long (x + y) :: r) h c
    | .lmul => l2F st fun x y r => K (pc + 1) L (.long (x * y) :: r) h c
    | .lcmp => l2F st fun x y r => K (pc + 1) L (.int (lg_cmp x y) :: r) h c
    | .dup => v1F st fun v r => v.category = 1 ∧ K (pc + 1) L (v :: v :: r) h c
    | .pop => v1F st fun v r => v.category = 1 ∧ K (pc + 1) L r h c
    | .dup2 => v1F st fun v r => v1F r fun w r2 => v.category = 1 ∧ w.category = 1 ∧ K (pc + 1) L (v :: w :: v :: w :: r2) h c
    | .goto _ => K a L st h c
    | .ifCond cc _ => i1F st fun x r => brF cc x 0 (K a L r h c) (K (pc + 3) L r h c)
    | .if_icmp cc _ => i2F st fun x y r => brF cc x y (K a L r h c) (K (pc + 3) L r h c)
    | .tableswitch d lo hi os => i1F st fun x r => tswF x lo (fun o => K (plF pc o) L r h c) os.toList ∧ ((x.toInt < lo ∨ hi < x.toInt) → K (plF pc d) L r h c)
    | .lookupswitch d ps => i1F st fun x r => lswF x d (fun o => K (plF pc o) L r h c) ps.toList
    | .getfield _ => r1F st fun p r => hK h p = (0, a, sn_fN a) ∧ (match sn_fR a b with
      | true => ∃ q, hR h p b = some q ∧ K (pc + 3) L (.ref q :: r) h c
      | false => K (pc + 3) L (.int (hG h p b) :: r) h c)
    | .putfield _ => v1F st fun v st1 => r1F st1 fun p r => hK h p = (0, a, sn_fN a) ∧ (match v with
      | .int x => sn_fR a b = false ∧ K (pc + 3) L r (setG h p b x) c
      | .ref q => sn_fR a b = true ∧ K (pc + 3) L r (setR h p b q) c
      | _ => False)
    | .iaload => irF st fun i p r => ∃ x n, hK h p = (1, x, n) ∧ vp_in i n ∧ K (pc + 1) L (.int (hG h p i.toNatClampNeg) :: r) h c
    | .caload => irF st fun i p r => ∃ n, hK h p = (2, 0, n) ∧ vp_in i n ∧ K (pc + 1) L (.int (hG h p i.toNatClampNeg) :: r) h c
    | .aaload => irF st fun i p r => ∃ ci n q, hK h p = (4, ci, n) ∧ vp_in i n ∧ hR h p i.toNatClampNeg = some q ∧ K (pc + 1) L (.ref q :: r) h c
    | .iastore => virF st fun v i p r => match v with
      | .int x => ∃ n, hK h p = (1, 0, n) ∧ vp_in i n ∧ K (pc + 1) L r (setG h p i.toNatClampNeg x) c
      | _ => False
    | .castore => virF st fun v i p r => match v with
      | .int x => ∃ n, hK h p = (2, 0, n) ∧ vp_in i n ∧ K (pc + 1) L r (setG h p i.toNatClampNeg (vp_nar .char x)) c
      | _ => False
    | .aastore => virF st fun v i p r => match v with
      | .ref q => ∃ ci n, hK h p = (4, ci, n) ∧ hK h q = (0, ci, sn_fN ci) ∧ vp_in i n ∧ K (pc + 1) L r (setR h p i.toNatClampNeg q) c
      | _ => False
    | .arraylength => r1F st fun p r => ∃ x n, hK h p = (1, x, n) ∧ K (pc + 1) L (.int (nI n) :: r) h c
    | .new _ => c.1 + 1 ≤ sn_mc m ∧ c.2 + sn_fN a ≤ sn_ms m ∧ K (pc + 3) L (.ref (hN h) :: st) (allocH h (0, a, sn_fN a)) (c.1 + 1, c.2 + sn_fN a)
    | .newarray _ => i1F st fun x r => ∃ n, x = nI n ∧ n ≤ 65536 ∧ c.1 + 1 ≤ sn_mc m ∧ c.2 + n ≤ sn_ms m ∧ K (pc + 2) L (.ref (hN h) :: r) (allocH h (a, 0, n)) (c.1 + 1, c.2 + n)
    | .anewarray _ => i1F st fun x r => ∃ n, x = nI n ∧ n ≤ 65536 ∧ c.1 + 1 ≤ sn_mc m ∧ c.2 + n ≤ sn_ms m ∧ K (pc + 3) L (.ref (hN h) :: r) (allocH h (4, a, n)) (c.1 + 1, c.2 + n)
    | .invokestatic _ => match Nat.beq a 9999 with
      | true => match st with
        | .int n :: .int d :: .ref pb :: .int s :: .ref pa :: r => ∃ s' d' n' na nb, s = nI s' ∧ d = nI d' ∧ n = nI n' ∧ s' < 65536 ∧ d' < 65536 ∧ n' < 65536 ∧ hK h pa = (1, 0, na) ∧ hK h pb = (1, 0, nb) ∧ s' + n' ≤ na ∧ d' + n' ≤ nb ∧ catsF r ≤ 8 ∧ K (pc + 3) L r (cpG h pa s' pb d' n') c
        | _ => False
      | false => match Nat.beq a 9997 with
      | true => i2F st fun x y r => catsF r ≤ 8 ∧ K (pc + 3) L (.int (if y < x then y else x) :: r) h c
      | false => match popF (sn_NA a) st [] with
        | none => False
        | some (as, r) => catsF r ≤ 8 ∧ c.1 + sn_mc a ≤ sn_mc m ∧ c.2 + sn_ms a ≤ sn_ms m ∧ C a as h (fun v h' => KA (pc + 3) L (v.toList ++ r) h' (c.1 + sn_mc a, c.2 + sn_ms a))
    | .invokespecial _ => match Nat.beq a 9998 with
      | true => r1F st fun p r => catsF r ≤ 8 ∧ K (pc + 3) L r h c
      | false => match popF (sn_NA a) st [] with
        | some (.ref p :: as, r) => catsF r ≤ 8 ∧ c.1 + sn_mc a ≤ sn_mc m ∧ c.2 + sn_ms a ≤ sn_ms m ∧ C a (.ref p :: as) h (fun v h' => KA (pc + 3) L (v.toList ++ r) h' (c.1 + sn_mc a, c.2 + sn_ms a))
        | _ => False
    | .invokevirtual _ => match popF (sn_NA a) st [] with
        | some (.ref p :: as, r) => hK h p = (0, sn_mO a, sn_fN (sn_mO a)) ∧ catsF r ≤ 8 ∧ c.1 + sn_mc a ≤ sn_mc m ∧ c.2 + sn_ms a ≤ sn_ms m ∧ C a (.ref p :: as) h (fun v h' => KA (pc + 3) L (v.toList ++ r) h' (c.1 + sn_mc a, c.2 + sn_ms a))
        | _ => False
    | .ireturn => match st with
      | [.int x] => (match sn_mR m with
        | some .int => Q (some (.int x)) h
        | some ty => narrow ty (.int x) = .int x ∧ Q (some (.int x)) h
        | none => False)
      | _ => False
    | .lreturn => match st with
      | [.long x] => sn_mR m = some .long ∧ Q (some (.long x)) h
      | _ => False
    | .areturn => match st with
      | [.ref x] => sn_mR m = some (.array .int) ∧ Q (some (.ref x)) h
      | _ => False
    | .return_ => match st with
      | [] => sn_mR m = none ∧ Q none h
      | _ => False
    | _ => False
/-- the locals of a method's entry -/
def slL : List Value → sn_L
  | [] => []
  | v :: l => some v :: (bif Nat.beq v.category 2 then none :: slL l else slL l)
def entL (m : Nat) (as : List Value) : sn_L := slL as ++ List.replicate (sn_mL m - (slL as).length) none
/-- it comes to an end of the method, with an answer and a heap of Q: the least relation that the instructions close -/
def sn_cl1 (P : Nat → Nat → sn_L → List Value → sn_H → Nat × Nat → (Option Value → sn_H → Prop) → Prop) : Prop :=
  ∀ m pc L st h c Q, semF (fun pc L st h c => P m pc L st h c Q) (fun pc L st h c => P m pc L st h c Q) (fun y as h Q' => (slL as).length ≤ sn_mL y ∧ P y 0 (entL y as) [] h (0, 0) Q') Q m pc L st h c → P m pc L st h c Q
def wpE (m pc : Nat) (L : sn_L) (st : List Value) (h : sn_H) (c : Nat × Nat) (Q : Option Value → sn_H → Prop) : Prop := ∀ P, sn_cl1 P → P m pc L st h c Q
/-- what must hold for a stretch of the code up to the cuts -/
def vcN (ct : Nat → Bool) (m : Nat) (Q : Option Value → sn_H → Prop) : Nat → Bool → Nat → sn_L → List Value → sn_H → Nat × Nat → Prop
  | 0, _, pc, L, st, h, c => wpE m pc L st h c Q
  | n + 1, b, pc, L, st, h, c => match b && ct pc with
    | true => wpE m pc L st h c Q
    | false => semF (fun pc L st h c => vcN ct m Q n true pc L st h c) (fun pc L st h c => wpE m pc L st h c Q) (fun y as h Q' => (slL as).length ≤ sn_mL y ∧ wpE y 0 (entL y as) [] h (0, 0) Q') Q m pc L st h c
