theorem r_X_hasBit_0 {v0 v1 : Int32} {h : sn_H} {Q : Option Value → sn_H → Prop} (H1 : (v0 >>> (v1 &&& 31)) &&& nI 1 = nI 1 → Q (some (.int (nI 1))) h) (H2 : ¬ (v0 >>> (v1 &&& 31)) &&& nI 1 = nI 1 → Q (some (.int (nI 0))) h) : wpE 16 0 [some (.int v0), some (.int v1)] [] h (0,0) Q :=
  vc_s (ct := fun _ => false) 30 false (And.intro (fun q => And.intro rfl (H2 q)) (fun q => And.intro rfl (H1 q)))
theorem r_X_errorOfSlot_0 {v0 q1 : Nat} {v1 : Int32} {h : sn_H} {Q : Option Value → sn_H → Prop} 
  (H1 : wpE 14 0 [some (.int v1)] [] h (0, 0) (fun v h' => wpE 21 4 [some (.ref v0), some (.int v1)] (v.toList ++ []) h' (0, 0) Q)) : wpE 21 0 [some (.ref v0), some (.int v1)] [] h (0,0) Q :=
  vc_s (ct := fun _ => false) 30 false (And.intro (Nat.le_of_ble_eq_true rfl) (And.intro (Nat.le_of_ble_eq_true rfl) (And.intro (Nat.le_of_ble_eq_true rfl) (And.intro (Nat.le_of_ble_eq_true rfl) H1))))
theorem r_X_errorOfSlot_4 {v0 q1 : Nat} {v1 s0 : Int32} {h : sn_H} {Q : Option Value → sn_H → Prop} 
  (e1 : ¬ s0 = 0 → hK h v0 = (0, 0, 5)) (e2 : ¬ s0 = 0 → hR h v0 0 = some q1) (e3 : ¬ s0 = 0 → hK h q1 = (0, 1, 14))
  (H1 : s0 = 0 → Q (some (.int (-(nI 20001)))) h)
  (H2 : ¬ s0 = 0 → wpE 15 0 [some (.ref q1), some (.int v1)] [] h (0, 0) (fun v h' => wpE 21 15 [some (.ref v0), some (.int v1)] (v.toList ++ []) h' (0, 0) Q)) : wpE 21 4 [some (.ref v0), some (.int v1)] [.int s0] h (0,0) Q :=
  vc_s (ct := fun _ => false) 30 false (And.intro (fun c1 => H1 c1) (fun c1 => (And.intro (e1 c1) (Exists.intro q1 (And.intro (e2 c1) (And.intro (e3 c1) (And.intro (Nat.le_of_ble_eq_true rfl) (And.intro (Nat.le_of_ble_eq_true rfl) (And.intro (Nat.le_of_ble_eq_true rfl) (And.intro (Nat.le_of_ble_eq_true rfl) (H2 c1)))))))))))
