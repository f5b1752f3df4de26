/-! ===== regions of the methods, printed by wip/genp/mkregions.py ===== -/
/-- SnapshotRings$State.copyFrom from 0 -/
theorem r_S_copyFrom_0 {v0 : Nat} {v1 : Nat} {h : sn_H} {Q : Option Value → sn_H → Prop}
    (k1 : hK h v1 = (0, 1, 14))
    (k2 : hK h v0 = (0, 1, 14))
    (H1 : wpE 7 24 [some (.ref v0), some (.ref v1)] [] (setG (setG (setG h v0 0 (hG h v1 0)) v0 1 (hG (setG h v0 0 (hG h v1 0)) v1 1)) v0 2 (hG (setG (setG h v0 0 (hG h v1 0)) v0 1 (hG (setG h v0 0 (hG h v1 0)) v1 1)) v1 2)) (0, 0) Q) :
    wpE 7 0 [some (.ref v0), some (.ref v1)] [] h (0, 0) Q :=
  vc_s (ct := fun pc => Nat.beq pc 24 || Nat.beq pc 119) 1000 false (And.intro k1 (And.intro k2 (And.intro rfl (And.intro k1 (And.intro k2 (And.intro rfl (And.intro k1 (And.intro k2 (And.intro rfl H1)))))))))
/-- SnapshotRings$State.copyFrom from 24 -/
theorem r_S_copyFrom_24 {v0 : Nat} {v1 : Nat} {q1 : Nat} {q2 : Nat} {n1 : Nat} {n2 : Nat} {q3 : Nat} {q4 : Nat} {n3 : Nat} {n4 : Nat} {q5 : Nat} {q6 : Nat} {n5 : Nat} {n6 : Nat} {q7 : Nat} {q8 : Nat} {n7 : Nat} {n8 : Nat} {q9 : Nat} {q10 : Nat} {n9 : Nat} {n10 : Nat} {q11 : Nat} {q12 : Nat} {n11 : Nat} {n12 : Nat} {h : sn_H} {Q : Option Value → sn_H → Prop}
    (k1 : hK h v1 = (0, 1, 14))
    (k2 : hK h v0 = (0, 1, 14))
    (k3 : hR h v1 4 = some q1)
    (k4 : hR h v0 4 = some q2)
    (k5 : hK h q1 = (1, 0, n1))
    (k6 : hK h q2 = (1, 0, n2))
    (k7 : hR h v1 5 = some q3)
    (k8 : hR h v0 5 = some q4)
    (k9 : hK h q3 = (1, 0, n3))
    (k10 : hK h q4 = (1, 0, n4))
    (k11 : hR h v1 6 = some q5)
    (k12 : hR h v0 6 = some q6)
    (k13 : hK h q5 = (1, 0, n5))
    (k14 : hK h q6 = (1, 0, n6))
    (k15 : hR h v1 7 = some q7)
    (k16 : hR h v0 7 = some q8)
    (k17 : hK h q7 = (1, 0, n7))
    (k18 : hK h q8 = (1, 0, n8))
    (k19 : hR h v1 8 = some q9)
    (k20 : hR h v0 8 = some q10)
    (k21 : hK h q9 = (1, 0, n9))
    (k22 : hK h q10 = (1, 0, n10))
    (k23 : hR h v1 9 = some q11)
    (k24 : hR h v0 9 = some q12)
    (k25 : hK h q11 = (1, 0, n11))
    (k26 : hK h q12 = (1, 0, n12))
    (B1 : 0 + 4 ≤ n1)
    (B2 : 0 + 4 ≤ n2)
    (B3 : 0 + 3 ≤ n3)
    (B4 : 0 + 3 ≤ n4)
    (B5 : 0 + 3 ≤ n5)
    (B6 : 0 + 3 ≤ n6)
    (B7 : 0 + 12 ≤ n7)
    (B8 : 0 + 12 ≤ n8)
    (B9 : 0 + 12 ≤ n9)
    (B10 : 0 + 12 ≤ n10)
    (B11 : 0 + 24 ≤ n11)
    (B12 : 0 + 24 ≤ n12)
    (H13 : wpE 7 119 [some (.ref v0), some (.ref v1)] [] (cpG (cpG (cpG (cpG (cpG (cpG (setG h v0 3 (hG h v1 3)) q1 0 q2 0 4) q3 0 q4 0 3) q5 0 q6 0 3) q7 0 q8 0 12) q9 0 q10 0 12) q11 0 q12 0 24) (0, 0) Q) :
    wpE 7 24 [some (.ref v0), some (.ref v1)] [] h (0, 0) Q :=
  vc_s (ct := fun pc => Nat.beq pc 24 || Nat.beq pc 119) 1000 false (And.intro k1 (And.intro k2 (And.intro rfl (And.intro k1 (Exists.intro q1 (And.intro k3 (And.intro k2 (Exists.intro q2 (And.intro k4 (Exists.intro 0 (Exists.intro 0 (Exists.intro 4 (Exists.intro n1 (Exists.intro n2 (And.intro rfl (And.intro rfl (And.intro rfl (And.intro (Nat.le_of_ble_eq_true rfl) (And.intro (Nat.le_of_ble_eq_true rfl) (And.intro (Nat.le_of_ble_eq_true rfl) (And.intro k5 (And.intro k6 (And.intro B1 (And.intro B2 (And.intro (Nat.le_of_ble_eq_true rfl) (And.intro k1 (Exists.intro q3 (And.intro k7 (And.intro k2 (Exists.intro q4 (And.intro k8 (Exists.intro 0 (Exists.intro 0 (Exists.intro 3 (Exists.intro n3 (Exists.intro n4 (And.intro rfl (And.intro rfl (And.intro rfl (And.intro (Nat.le_of_ble_eq_true rfl) (And.intro (Nat.le_of_ble_eq_true rfl) (And.intro (Nat.le_of_ble_eq_true rfl) (And.intro k9 (And.intro k10 (And.intro B3 (And.intro B4 (And.intro (Nat.le_of_ble_eq_true rfl) (And.intro k1 (Exists.intro q5 (And.intro k11 (And.intro k2 (Exists.intro q6 (And.intro k12 (Exists.intro 0 (Exists.intro 0 (Exists.intro 3 (Exists.intro n5 (Exists.intro n6 (And.intro rfl (And.intro rfl (And.intro rfl (And.intro (Nat.le_of_ble_eq_true rfl) (And.intro (Nat.le_of_ble_eq_true rfl) (And.intro (Nat.le_of_ble_eq_true rfl) (And.intro k13 (And.intro k14 (And.intro B5 (And.intro B6 (And.intro (Nat.le_of_ble_eq_true rfl) (And.intro k1 (Exists.intro q7 (And.intro k15 (And.intro k2 (Exists.intro q8 (And.intro k16 (Exists.intro 0 (Exists.intro 0 (Exists.intro 12 (Exists.intro n7 (Exists.intro n8 (And.intro rfl (And.intro rfl (And.intro rfl (And.intro (Nat.le_of_ble_eq_true rfl) (And.intro (Nat.le_of_ble_eq_true rfl) (And.intro (Nat.le_of_ble_eq_true rfl) (And.intro k17 (And.intro k18 (And.intro B7 (And.intro B8 (And.intro (Nat.le_of_ble_eq_true rfl) (And.intro k1 (Exists.intro q9 (And.intro k19 (And.intro k2 (Exists.intro q10 (And.intro k20 (Exists.intro 0 (Exists.intro 0 (Exists.intro 12 (Exists.intro n9 (Exists.intro n10 (And.intro rfl (And.intro rfl (And.intro rfl (And.intro (Nat.le_of_ble_eq_true rfl) (And.intro (Nat.le_of_ble_eq_true rfl) (And.intro (Nat.le_of_ble_eq_true rfl) (And.intro k21 (And.intro k22 (And.intro B9 (And.intro B10 (And.intro (Nat.le_of_ble_eq_true rfl) (And.intro k1 (Exists.intro q11 (And.intro k23 (And.intro k2 (Exists.intro q12 (And.intro k24 (Exists.intro 0 (Exists.intro 0 (Exists.intro 24 (Exists.intro n11 (Exists.intro n12 (And.intro rfl (And.intro rfl (And.intro rfl (And.intro (Nat.le_of_ble_eq_true rfl) (And.intro (Nat.le_of_ble_eq_true rfl) (And.intro (Nat.le_of_ble_eq_true rfl) (And.intro k25 (And.intro k26 (And.intro B11 (And.intro B12 (And.intro (Nat.le_of_ble_eq_true rfl) H13)))))))))))))))))))))))))))))))))))))))))))))))))))))))))))))))))))))))))))))))))))))))))))))))))))))))))))))))))))))))))))))))))))))))
/-- SnapshotRings$State.copyFrom from 119 -/
theorem r_S_copyFrom_119 {v0 : Nat} {v1 : Nat} {q1 : Nat} {q2 : Nat} {n1 : Nat} {n2 : Nat} {q3 : Nat} {q4 : Nat} {n3 : Nat} {n4 : Nat} {q5 : Nat} {q6 : Nat} {n5 : Nat} {n6 : Nat} {q7 : Nat} {q8 : Nat} {n7 : Nat} {n8 : Nat} {h : sn_H} {Q : Option Value → sn_H → Prop}
    (k1 : hK h v1 = (0, 1, 14))
    (k2 : hR h v1 10 = some q1)
    (k3 : hK h v0 = (0, 1, 14))
    (k4 : hR h v0 10 = some q2)
    (k5 : hK h q1 = (1, 0, n1))
    (k6 : hK h q2 = (1, 0, n2))
    (k7 : hR h v1 11 = some q3)
    (k8 : hR h v0 11 = some q4)
    (k9 : hK h q3 = (1, 0, n3))
    (k10 : hK h q4 = (1, 0, n4))
    (k11 : hR h v1 12 = some q5)
    (k12 : hR h v0 12 = some q6)
    (k13 : hK h q5 = (1, 0, n5))
    (k14 : hK h q6 = (1, 0, n6))
    (k15 : hR h v1 13 = some q7)
    (k16 : hR h v0 13 = some q8)
    (k17 : hK h q7 = (1, 0, n7))
    (k18 : hK h q8 = (1, 0, n8))
    (B1 : 0 + 24 ≤ n1)
    (B2 : 0 + 24 ≤ n2)
    (B3 : 0 + 24 ≤ n3)
    (B4 : 0 + 24 ≤ n4)
    (B5 : 0 + 288 ≤ n5)
    (B6 : 0 + 288 ≤ n6)
    (B7 : 0 + 96 ≤ n7)
    (B8 : 0 + 96 ≤ n8)
    (H9 : Q none (cpG (cpG (cpG (cpG h q1 0 q2 0 24) q3 0 q4 0 24) q5 0 q6 0 288) q7 0 q8 0 96)) :
    wpE 7 119 [some (.ref v0), some (.ref v1)] [] h (0, 0) Q :=
  vc_s (ct := fun pc => Nat.beq pc 24 || Nat.beq pc 119) 1000 false (And.intro k1 (Exists.intro q1 (And.intro k2 (And.intro k3 (Exists.intro q2 (And.intro k4 (Exists.intro 0 (Exists.intro 0 (Exists.intro 24 (Exists.intro n1 (Exists.intro n2 (And.intro rfl (And.intro rfl (And.intro rfl (And.intro (Nat.le_of_ble_eq_true rfl) (And.intro (Nat.le_of_ble_eq_true rfl) (And.intro (Nat.le_of_ble_eq_true rfl) (And.intro k5 (And.intro k6 (And.intro B1 (And.intro B2 (And.intro (Nat.le_of_ble_eq_true rfl) (And.intro k1 (Exists.intro q3 (And.intro k7 (And.intro k3 (Exists.intro q4 (And.intro k8 (Exists.intro 0 (Exists.intro 0 (Exists.intro 24 (Exists.intro n3 (Exists.intro n4 (And.intro rfl (And.intro rfl (And.intro rfl (And.intro (Nat.le_of_ble_eq_true rfl) (And.intro (Nat.le_of_ble_eq_true rfl) (And.intro (Nat.le_of_ble_eq_true rfl) (And.intro k9 (And.intro k10 (And.intro B3 (And.intro B4 (And.intro (Nat.le_of_ble_eq_true rfl) (And.intro k1 (Exists.intro q5 (And.intro k11 (And.intro k3 (Exists.intro q6 (And.intro k12 (Exists.intro 0 (Exists.intro 0 (Exists.intro 288 (Exists.intro n5 (Exists.intro n6 (And.intro rfl (And.intro rfl (And.intro rfl (And.intro (Nat.le_of_ble_eq_true rfl) (And.intro (Nat.le_of_ble_eq_true rfl) (And.intro (Nat.le_of_ble_eq_true rfl) (And.intro k13 (And.intro k14 (And.intro B5 (And.intro B6 (And.intro (Nat.le_of_ble_eq_true rfl) (And.intro k1 (Exists.intro q7 (And.intro k15 (And.intro k3 (Exists.intro q8 (And.intro k16 (Exists.intro 0 (Exists.intro 0 (Exists.intro 96 (Exists.intro n7 (Exists.intro n8 (And.intro rfl (And.intro rfl (And.intro rfl (And.intro (Nat.le_of_ble_eq_true rfl) (And.intro (Nat.le_of_ble_eq_true rfl) (And.intro (Nat.le_of_ble_eq_true rfl) (And.intro k17 (And.intro k18 (And.intro B7 (And.intro B8 (And.intro (Nat.le_of_ble_eq_true rfl) (And.intro rfl H9)))))))))))))))))))))))))))))))))))))))))))))))))))))))))))))))))))))))))))))))))))))))))
/-- SnapshotRings.isConstraint from 0 -/
theorem r_X_isConstraint_0 {v0 : Int32} {h : sn_H} {Q : Option Value → sn_H → Prop}
    (H1 : v0 < 0 → Q (some (.int (nI 0))) h)
    (H2 : ¬ v0 < 0 → nI 3 ≤ v0 → Q (some (.int (nI 0))) h)
    (H3 : ¬ v0 < 0 → ¬ nI 3 ≤ v0 → Q (some (.int (nI 1))) h) :
    wpE 9 0 [some (.int v0)] [] h (0, 0) Q :=
  vc_s (ct := fun _ => false) 1000 false (And.intro (fun c1 => (And.intro rfl (H1 c1))) (fun c2 => (And.intro (fun c3 => (And.intro rfl (H2 c2 c3))) (fun c4 => (And.intro rfl (H3 c2 c4))))))
/-- SnapshotRings.isSlot from 0 -/
theorem r_X_isSlot_0 {v0 : Int32} {h : sn_H} {Q : Option Value → sn_H → Prop}
    (H1 : v0 < 0 → Q (some (.int (nI 0))) h)
    (H2 : ¬ v0 < 0 → nI 8 ≤ v0 → Q (some (.int (nI 0))) h)
    (H3 : ¬ v0 < 0 → ¬ nI 8 ≤ v0 → Q (some (.int (nI 1))) h) :
    wpE 12 0 [some (.int v0)] [] h (0, 0) Q :=
  vc_s (ct := fun _ => false) 1000 false (And.intro (fun c1 => (And.intro rfl (H1 c1))) (fun c2 => (And.intro (fun c3 => (And.intro rfl (H2 c2 c3))) (fun c4 => (And.intro rfl (H3 c2 c4))))))
/-- SnapshotRings.hasBit from 0 -/
theorem r_X_hasBit_0 {v0 : Int32} {v1 : Int32} {h : sn_H} {Q : Option Value → sn_H → Prop}
    (H1 : ¬ ((v0 >>> (v1 &&& 31)) &&& nI 1) = nI 1 → Q (some (.int (nI 0))) h)
    (H2 : ((v0 >>> (v1 &&& 31)) &&& nI 1) = nI 1 → Q (some (.int (nI 1))) h) :
    wpE 14 0 [some (.int v0), some (.int v1)] [] h (0, 0) Q :=
  vc_s (ct := fun _ => false) 1000 false (And.intro (fun c1 => (And.intro rfl (H1 c1))) (fun c2 => (And.intro rfl (H2 c2))))
/-- SnapshotRings$State.isOpen from 0 -/
theorem r_S_isOpen_0 {v0 : Nat} {v1 : Int32} {h : sn_H} {Q : Option Value → sn_H → Prop}
    (k1 : hK h v0 = (0, 1, 14))
    (H1 : ¬ (((hG h v0 3) >>> (v1 &&& 31)) &&& nI 1) = nI 1 → Q (some (.int (nI 0))) h)
    (H2 : (((hG h v0 3) >>> (v1 &&& 31)) &&& nI 1) = nI 1 → Q (some (.int (nI 1))) h) :
    wpE 13 0 [some (.ref v0), some (.int v1)] [] h (0, 0) Q :=
  vc_s (ct := fun _ => false) 1000 false (And.intro k1 (And.intro (Nat.le_of_ble_eq_true rfl) (And.intro (Nat.le_of_ble_eq_true rfl) (And.intro (Nat.le_of_ble_eq_true rfl) (And.intro (Nat.le_of_ble_eq_true rfl) (r_X_hasBit_0 (v0 := (hG h v0 3)) (v1 := v1) (h := h) (fun c1 => (vc_s (ct := fun _ => false) 1000 false (And.intro rfl (H1 c1)))) (fun c2 => (vc_s (ct := fun _ => false) 1000 false (And.intro rfl (H2 c2))))))))))
/-- SnapshotRings$State.start from 0 -/
theorem r_S_start_0 {v0 : Nat} {v1 : Int32} {q1 : Nat} {n1 : Nat} {h : sn_H} {Q : Option Value → sn_H → Prop}
    (k1 : hK h v0 = (0, 1, 14))
    (k2 : hR h v0 9 = some q1)
    (k3 : hK h q1 = (1, 0, n1))
    (B1 : vp_in v1 n1)
    (H2 : wpE 15 22 [some (.ref v0), some (.int v1)] [] (setG (setG h v0 3 ((hG h v0 3) ||| (nI 1 <<< (v1 &&& 31)))) q1 v1.toNatClampNeg (hG (setG h v0 3 ((hG h v0 3) ||| (nI 1 <<< (v1 &&& 31)))) v0 1)) (0, 0) Q) :
    wpE 15 0 [some (.ref v0), some (.int v1)] [] h (0, 0) Q :=
  vc_s (ct := fun pc => Nat.beq pc 22) 1000 false (And.intro rfl (And.intro k1 (And.intro k1 (And.intro rfl (And.intro k1 (Exists.intro q1 (And.intro k2 (And.intro k1 (Exists.intro n1 (And.intro k3 (And.intro B1 H2)))))))))))
/-- SnapshotRings$State.start from 22 -/
theorem r_S_start_22 {v0 : Nat} {v1 : Int32} {q1 : Nat} {n1 : Nat} {q2 : Nat} {n2 : Nat} {q3 : Nat} {q4 : Nat} {n3 : Nat} {n4 : Nat} {n5 : Nat} {q5 : Nat} {q6 : Nat} {n6 : Nat} {n7 : Nat} {n8 : Nat} {h : sn_H} {Q : Option Value → sn_H → Prop}
    (k1 : hK h v0 = (0, 1, 14))
    (k2 : hR h v0 10 = some q1)
    (k3 : hK h q1 = (1, 0, n1))
    (k4 : hR h v0 11 = some q2)
    (k5 : hK h q2 = (1, 0, n2))
    (k6 : hR h v0 8 = some q3)
    (k7 : hR h v0 12 = some q4)
    (k8 : hK h q3 = (1, 0, n3))
    (k9 : hK h q4 = (1, 0, n4))
    (k10 : hR h v0 7 = some q5)
    (k11 : hR h v0 13 = some q6)
    (k12 : hK h q5 = (1, 0, n6))
    (k13 : hK h q6 = (1, 0, n7))
    (B1 : vp_in v1 n1)
    (B2 : vp_in v1 n2)
    (B3 : (v1 * nI 12) = nI n5)
    (B4 : n5 < 65536)
    (B5 : 0 + 12 ≤ n3)
    (B6 : n5 + 12 ≤ n4)
    (B7 : (v1 * nI 12) = nI n8)
    (B8 : n8 < 65536)
    (B9 : 0 + 12 ≤ n6)
    (B10 : n8 + 12 ≤ n7)
    (H11 : Q (some (.int (hG (cpG (cpG (setG (setG h q1 v1.toNatClampNeg (nI 0)) q2 v1.toNatClampNeg (nI 0)) q3 0 q4 n5 12) q5 0 q6 n8 12) v0 1))) (cpG (cpG (setG (setG h q1 v1.toNatClampNeg (nI 0)) q2 v1.toNatClampNeg (nI 0)) q3 0 q4 n5 12) q5 0 q6 n8 12)) :
    wpE 15 22 [some (.ref v0), some (.int v1)] [] h (0, 0) Q :=
  vc_s (ct := fun pc => Nat.beq pc 22) 1000 false (And.intro k1 (Exists.intro q1 (And.intro k2 (Exists.intro n1 (And.intro k3 (And.intro B1 (And.intro k1 (Exists.intro q2 (And.intro k4 (Exists.intro n2 (And.intro k5 (And.intro B2 (And.intro k1 (Exists.intro q3 (And.intro k6 (And.intro k1 (Exists.intro q4 (And.intro k7 (Exists.intro 0 (Exists.intro n5 (Exists.intro 12 (Exists.intro n3 (Exists.intro n4 (And.intro rfl (And.intro B3 (And.intro rfl (And.intro (Nat.le_of_ble_eq_true rfl) (And.intro B4 (And.intro (Nat.le_of_ble_eq_true rfl) (And.intro k8 (And.intro k9 (And.intro B5 (And.intro B6 (And.intro (Nat.le_of_ble_eq_true rfl) (And.intro k1 (Exists.intro q5 (And.intro k10 (And.intro k1 (Exists.intro q6 (And.intro k11 (Exists.intro 0 (Exists.intro n8 (Exists.intro 12 (Exists.intro n6 (Exists.intro n7 (And.intro rfl (And.intro B7 (And.intro rfl (And.intro (Nat.le_of_ble_eq_true rfl) (And.intro B8 (And.intro (Nat.le_of_ble_eq_true rfl) (And.intro k12 (And.intro k13 (And.intro B9 (And.intro B10 (And.intro (Nat.le_of_ble_eq_true rfl) (And.intro k1 H11)))))))))))))))))))))))))))))))))))))))))))))))))))))))))
/-- SnapshotRings.isKey from 0 -/
theorem r_X_isKey_0 {v0 : Int32} {h : sn_H} {Q : Option Value → sn_H → Prop}
    (H1 : v0 < 0 → Q (some (.int (nI 0))) h)
    (H2 : ¬ v0 < 0 → nI 12 ≤ v0 → Q (some (.int (nI 0))) h)
    (H3 : ¬ v0 < 0 → ¬ nI 12 ≤ v0 → Q (some (.int (nI 1))) h) :
    wpE 18 0 [some (.int v0)] [] h (0, 0) Q :=
  vc_s (ct := fun _ => false) 1000 false (And.intro (fun c1 => (And.intro rfl (H1 c1))) (fun c2 => (And.intro (fun c3 => (And.intro rfl (H2 c2 c3))) (fun c4 => (And.intro rfl (H3 c2 c4))))))
/-- SnapshotRings$State.readKey from 0 -/
theorem r_S_readKey_0 {v0 : Nat} {v1 : Int32} {v2 : Int32} {q1 : Nat} {n1 : Nat} {q2 : Nat} {n2 : Nat} {q3 : Nat} {n3 : Nat} {h : sn_H} {Q : Option Value → sn_H → Prop}
    (k1 : hK h v0 = (0, 1, 14))
    (k2 : hR h v0 11 = some q1)
    (k3 : hK h q1 = (1, 0, n1))
    (k4 : hR h v0 10 = some q2)
    (k5 : hK h q2 = (1, 0, n2))
    (k6 : hR h v0 13 = some q3)
    (k7 : hK h q3 = (1, 0, n3))
    (B1 : vp_in v1 n1)
    (B2 : ¬ (((hG h q1 v1.toNatClampNeg) >>> (v2 &&& 31)) &&& nI 1) = nI 1 → vp_in v1 n2)
    (B3 : ¬ (((hG h q1 v1.toNatClampNeg) >>> (v2 &&& 31)) &&& nI 1) = nI 1 → vp_in ((v1 * nI 12) + v2) n3)
    (H4 : ¬ (((hG h q1 v1.toNatClampNeg) >>> (v2 &&& 31)) &&& nI 1) = nI 1 → Q (some (.int (hG (setG h q2 v1.toNatClampNeg ((hG h q2 v1.toNatClampNeg) ||| (nI 1 <<< (v2 &&& 31)))) q3 ((v1 * nI 12) + v2).toNatClampNeg))) (setG h q2 v1.toNatClampNeg ((hG h q2 v1.toNatClampNeg) ||| (nI 1 <<< (v2 &&& 31)))))
    (B5 : (((hG h q1 v1.toNatClampNeg) >>> (v2 &&& 31)) &&& nI 1) = nI 1 → vp_in ((v1 * nI 12) + v2) n3)
    (H6 : (((hG h q1 v1.toNatClampNeg) >>> (v2 &&& 31)) &&& nI 1) = nI 1 → Q (some (.int (hG h q3 ((v1 * nI 12) + v2).toNatClampNeg))) h) :
    wpE 20 0 [some (.ref v0), some (.int v1), some (.int v2)] [] h (0, 0) Q :=
  vc_s (ct := fun _ => false) 1000 false (And.intro k1 (Exists.intro q1 (And.intro k2 (Exists.intro 0 (Exists.intro n1 (And.intro k3 (And.intro B1 (And.intro (Nat.le_of_ble_eq_true rfl) (And.intro (Nat.le_of_ble_eq_true rfl) (And.intro (Nat.le_of_ble_eq_true rfl) (And.intro (Nat.le_of_ble_eq_true rfl) (r_X_hasBit_0 (v0 := (hG h q1 v1.toNatClampNeg)) (v1 := v2) (h := h) (fun c1 => (vc_s (ct := fun _ => false) 1000 false (And.intro (fun c2 => absurd c2 (by decide)) (fun c2 => (And.intro k1 (Exists.intro q2 (And.intro k4 (And.intro rfl (And.intro rfl (Exists.intro 0 (Exists.intro n2 (And.intro k5 (And.intro (B2 c1) (Exists.intro n2 (And.intro k5 (And.intro (B2 c1) (And.intro k1 (Exists.intro q3 (And.intro k6 (Exists.intro 0 (Exists.intro n3 (And.intro k7 (And.intro (B3 c1) (H4 c1)))))))))))))))))))))))) (fun c3 => (vc_s (ct := fun _ => false) 1000 false (And.intro (fun c4 => (And.intro k1 (Exists.intro q3 (And.intro k6 (Exists.intro 0 (Exists.intro n3 (And.intro k7 (And.intro (B5 c3) (H6 c3))))))))) (fun c4 => absurd c4 (by decide)))))))))))))))))
/-- java/lang/Integer.bitCount from 0 -/
theorem r_I_bitCount_0 {v0 : Int32} {h : sn_H} {Q : Option Value → sn_H → Prop}
    (H1 : Q (some (.int ((((((((v0 - ((v0.toUInt32 >>> ((nI 1).toUInt32 &&& Int32.toUInt32 31)).toInt32 &&& nI 1431655765)) &&& nI 858993459) + (((v0 - ((v0.toUInt32 >>> ((nI 1).toUInt32 &&& Int32.toUInt32 31)).toInt32 &&& nI 1431655765)).toUInt32 >>> ((nI 2).toUInt32 &&& Int32.toUInt32 31)).toInt32 &&& nI 858993459)) + ((((v0 - ((v0.toUInt32 >>> ((nI 1).toUInt32 &&& Int32.toUInt32 31)).toInt32 &&& nI 1431655765)) &&& nI 858993459) + (((v0 - ((v0.toUInt32 >>> ((nI 1).toUInt32 &&& Int32.toUInt32 31)).toInt32 &&& nI 1431655765)).toUInt32 >>> ((nI 2).toUInt32 &&& Int32.toUInt32 31)).toInt32 &&& nI 858993459)).toUInt32 >>> ((nI 4).toUInt32 &&& Int32.toUInt32 31)).toInt32) &&& nI 252645135) + ((((((v0 - ((v0.toUInt32 >>> ((nI 1).toUInt32 &&& Int32.toUInt32 31)).toInt32 &&& nI 1431655765)) &&& nI 858993459) + (((v0 - ((v0.toUInt32 >>> ((nI 1).toUInt32 &&& Int32.toUInt32 31)).toInt32 &&& nI 1431655765)).toUInt32 >>> ((nI 2).toUInt32 &&& Int32.toUInt32 31)).toInt32 &&& nI 858993459)) + ((((v0 - ((v0.toUInt32 >>> ((nI 1).toUInt32 &&& Int32.toUInt32 31)).toInt32 &&& nI 1431655765)) &&& nI 858993459) + (((v0 - ((v0.toUInt32 >>> ((nI 1).toUInt32 &&& Int32.toUInt32 31)).toInt32 &&& nI 1431655765)).toUInt32 >>> ((nI 2).toUInt32 &&& Int32.toUInt32 31)).toInt32 &&& nI 858993459)).toUInt32 >>> ((nI 4).toUInt32 &&& Int32.toUInt32 31)).toInt32) &&& nI 252645135).toUInt32 >>> ((nI 8).toUInt32 &&& Int32.toUInt32 31)).toInt32) + (((((((v0 - ((v0.toUInt32 >>> ((nI 1).toUInt32 &&& Int32.toUInt32 31)).toInt32 &&& nI 1431655765)) &&& nI 858993459) + (((v0 - ((v0.toUInt32 >>> ((nI 1).toUInt32 &&& Int32.toUInt32 31)).toInt32 &&& nI 1431655765)).toUInt32 >>> ((nI 2).toUInt32 &&& Int32.toUInt32 31)).toInt32 &&& nI 858993459)) + ((((v0 - ((v0.toUInt32 >>> ((nI 1).toUInt32 &&& Int32.toUInt32 31)).toInt32 &&& nI 1431655765)) &&& nI 858993459) + (((v0 - ((v0.toUInt32 >>> ((nI 1).toUInt32 &&& Int32.toUInt32 31)).toInt32 &&& nI 1431655765)).toUInt32 >>> ((nI 2).toUInt32 &&& Int32.toUInt32 31)).toInt32 &&& nI 858993459)).toUInt32 >>> ((nI 4).toUInt32 &&& Int32.toUInt32 31)).toInt32) &&& nI 252645135) + ((((((v0 - ((v0.toUInt32 >>> ((nI 1).toUInt32 &&& Int32.toUInt32 31)).toInt32 &&& nI 1431655765)) &&& nI 858993459) + (((v0 - ((v0.toUInt32 >>> ((nI 1).toUInt32 &&& Int32.toUInt32 31)).toInt32 &&& nI 1431655765)).toUInt32 >>> ((nI 2).toUInt32 &&& Int32.toUInt32 31)).toInt32 &&& nI 858993459)) + ((((v0 - ((v0.toUInt32 >>> ((nI 1).toUInt32 &&& Int32.toUInt32 31)).toInt32 &&& nI 1431655765)) &&& nI 858993459) + (((v0 - ((v0.toUInt32 >>> ((nI 1).toUInt32 &&& Int32.toUInt32 31)).toInt32 &&& nI 1431655765)).toUInt32 >>> ((nI 2).toUInt32 &&& Int32.toUInt32 31)).toInt32 &&& nI 858993459)).toUInt32 >>> ((nI 4).toUInt32 &&& Int32.toUInt32 31)).toInt32) &&& nI 252645135).toUInt32 >>> ((nI 8).toUInt32 &&& Int32.toUInt32 31)).toInt32).toUInt32 >>> ((nI 16).toUInt32 &&& Int32.toUInt32 31)).toInt32) &&& nI 63))) h) :
    wpE 24 0 [some (.int v0)] [] h (0, 0) Q :=
  vc_s (ct := fun _ => false) 1000 false (And.intro (Nat.le_of_ble_eq_true rfl) (And.intro (Nat.le_of_ble_eq_true rfl) (And.intro (Nat.le_of_ble_eq_true rfl) (And.intro (Nat.le_of_ble_eq_true rfl) (And.intro (Nat.le_of_ble_eq_true rfl) H1)))))
/-- SnapshotRings$State.writeKey from 0 -/
theorem r_S_writeKey_0 {v0 : Nat} {v1 : Int32} {v2 : Int32} {v3 : Int32} {q1 : Nat} {n1 : Nat} {q2 : Nat} {n2 : Nat} {h : sn_H} {Q : Option Value → sn_H → Prop}
    (k1 : hK h v0 = (0, 1, 14))
    (k2 : hR h v0 11 = some q1)
    (k3 : hK h q1 = (1, 0, n1))
    (k4 : hR h v0 13 = some q2)
    (k5 : hK h q2 = (1, 0, n2))
    (B1 : vp_in v1 n1)
    (B2 : vp_in ((v1 * nI 12) + v2) n2)
    (H3 : wpE 23 24 [some (.ref v0), some (.int v1), none, none] [] (setG (setG h q1 v1.toNatClampNeg ((hG h q1 v1.toNatClampNeg) ||| (nI 1 <<< (v2 &&& 31)))) q2 ((v1 * nI 12) + v2).toNatClampNeg v3) (0, 0) Q) :
    wpE 23 0 [some (.ref v0), some (.int v1), some (.int v2), some (.int v3)] [] h (0, 0) Q :=
  vc_s (ct := fun pc => Nat.beq pc 24) 1000 false (And.intro k1 (Exists.intro q1 (And.intro k2 (And.intro rfl (And.intro rfl (Exists.intro 0 (Exists.intro n1 (And.intro k3 (And.intro B1 (Exists.intro n1 (And.intro k3 (And.intro B1 (And.intro k1 (Exists.intro q2 (And.intro k4 (Exists.intro n2 (And.intro k5 (And.intro B2 (@wpE_w _ _ [some (.ref v0), some (.int v1), none, none] _ _ _ _ _ (show LeL [some (.ref v0), some (.int v1), none, none] [some (.ref v0), some (.int v1), some (.int v2), some (.int v3)] from (And.intro rfl (And.intro rfl trivial))) H3)))))))))))))))))))
/-- SnapshotRings$State.writeKey from 24 -/
theorem r_S_writeKey_24 {v0 : Nat} {v1 : Int32} {q1 : Nat} {n1 : Nat} {h : sn_H} {Q : Option Value → sn_H → Prop}
    (k1 : hK h v0 = (0, 1, 14))
    (k2 : hR h v0 11 = some q1)
    (k3 : hK h q1 = (1, 0, n1))
    (B1 : vp_in v1 n1)
    (H2 : wpE 24 0 [some (.int (hG h q1 v1.toNatClampNeg))] [] h (0, 0) (fun r hh => wpE 23 33 [none, none, none, none] (r.toList ++ []) hh (0, 0) Q)) :
    wpE 23 24 [some (.ref v0), some (.int v1), none, none] [] h (0, 0) Q :=
  vc_s (ct := fun pc => Nat.beq pc 24) 1000 false (And.intro k1 (Exists.intro q1 (And.intro k2 (Exists.intro 0 (Exists.intro n1 (And.intro k3 (And.intro B1 (And.intro (Nat.le_of_ble_eq_true rfl) (And.intro (Nat.le_of_ble_eq_true rfl) (And.intro (Nat.le_of_ble_eq_true rfl) (And.intro (Nat.le_of_ble_eq_true rfl) (wpE_m (fun _ _ HH => @wpE_w _ _ [none, none, none, none] _ _ _ _ _ (show LeL [none, none, none, none] [some (.ref v0), some (.int v1), none, none] from trivial) HH) H2))))))))))))
/-- SnapshotRings$State.writeKey from 33 -/
theorem r_S_writeKey_33 {s0 : Int32} {h : sn_H} {Q : Option Value → sn_H → Prop}
    (H1 : Q (some (.int s0)) h) :
    wpE 23 33 [none, none, none, none] [.int s0] h (0, 0) Q :=
  vc_s (ct := fun pc => Nat.beq pc 24) 1000 false H1
/-- SnapshotRings$State.overwritesNewer from 0 -/
theorem r_S_overwritesNewer_0 {v0 : Nat} {v1 : Int32} {h : sn_H} {Q : Option Value → sn_H → Prop}
    (H1 : wpE 28 2 [some (.ref v0), some (.int v1), some (.int (nI 0))] [] h (0, 0) Q) :
    wpE 28 0 [some (.ref v0), some (.int v1), none] [] h (0, 0) Q :=
  vc_s (ct := fun pc => Nat.beq pc 2) 1000 false (And.intro (Nat.le_of_ble_eq_true rfl) H1)
/-- SnapshotRings$State.overwritesNewer from 2 -/
theorem r_S_overwritesNewer_2 {v0 : Nat} {v1 : Int32} {v2 : Int32} {q1 : Nat} {n1 : Nat} {q2 : Nat} {n2 : Nat} {q3 : Nat} {n3 : Nat} {h : sn_H} {Q : Option Value → sn_H → Prop}
    (k1 : hK h v0 = (0, 1, 14))
    (k2 : hR h v0 11 = some q1)
    (k3 : hK h q1 = (1, 0, n1))
    (k4 : hR h v0 8 = some q2)
    (k5 : hK h q2 = (1, 0, n2))
    (k6 : hR h v0 9 = some q3)
    (k7 : hK h q3 = (1, 0, n3))
    (H1 : nI 12 ≤ v2 → Q (some (.int (nI 0))) h)
    (B2 : ¬ nI 12 ≤ v2 → vp_in v1 n1)
    (H3 : ¬ nI 12 ≤ v2 → ¬ (((hG h q1 v1.toNatClampNeg) >>> (v2 &&& 31)) &&& nI 1) = nI 1 → wpE 28 2 [some (.ref v0), some (.int v1), some (.int (v2 + nI 1))] [] h (0, 0) Q)
    (B4 : ¬ nI 12 ≤ v2 → (((hG h q1 v1.toNatClampNeg) >>> (v2 &&& 31)) &&& nI 1) = nI 1 → vp_in v2 n2)
    (B5 : ¬ nI 12 ≤ v2 → (((hG h q1 v1.toNatClampNeg) >>> (v2 &&& 31)) &&& nI 1) = nI 1 → vp_in v1 n3)
    (H6 : ¬ nI 12 ≤ v2 → (((hG h q1 v1.toNatClampNeg) >>> (v2 &&& 31)) &&& nI 1) = nI 1 → (hG h q2 v2.toNatClampNeg) ≤ (hG h q3 v1.toNatClampNeg) → wpE 28 2 [some (.ref v0), some (.int v1), some (.int (v2 + nI 1))] [] h (0, 0) Q)
    (H7 : ¬ nI 12 ≤ v2 → (((hG h q1 v1.toNatClampNeg) >>> (v2 &&& 31)) &&& nI 1) = nI 1 → ¬ (hG h q2 v2.toNatClampNeg) ≤ (hG h q3 v1.toNatClampNeg) → Q (some (.int (nI 1))) h) :
    wpE 28 2 [some (.ref v0), some (.int v1), some (.int v2)] [] h (0, 0) Q :=
  vc_s (ct := fun pc => Nat.beq pc 2) 1000 false (And.intro (fun c1 => (And.intro rfl (H1 c1))) (fun c2 => (And.intro k1 (Exists.intro q1 (And.intro k2 (Exists.intro 0 (Exists.intro n1 (And.intro k3 (And.intro (B2 c2) (And.intro (Nat.le_of_ble_eq_true rfl) (And.intro (Nat.le_of_ble_eq_true rfl) (And.intro (Nat.le_of_ble_eq_true rfl) (And.intro (Nat.le_of_ble_eq_true rfl) (r_X_hasBit_0 (v0 := (hG h q1 v1.toNatClampNeg)) (v1 := v2) (h := h) (fun c3 => (vc_s (ct := fun pc => Nat.beq pc 2) 1000 false (And.intro (fun c4 => (And.intro (Nat.le_of_ble_eq_true rfl) (H3 c2 c3))) (fun c4 => absurd c4 (by decide))))) (fun c5 => (vc_s (ct := fun pc => Nat.beq pc 2) 1000 false (And.intro (fun c6 => absurd c6 (by decide)) (fun c6 => (And.intro k1 (Exists.intro q2 (And.intro k4 (Exists.intro 0 (Exists.intro n2 (And.intro k5 (And.intro (B4 c2 c5) (And.intro k1 (Exists.intro q3 (And.intro k6 (Exists.intro 0 (Exists.intro n3 (And.intro k7 (And.intro (B5 c2 c5) (And.intro (fun c7 => (And.intro (Nat.le_of_ble_eq_true rfl) (H6 c2 c5 c7))) (fun c8 => (And.intro rfl (H7 c2 c5 c8))))))))))))))))))))))))))))))))))))
/-- SnapshotRings$State.keptCommits from 0 -/
theorem r_S_keptCommits_0 {v0 : Nat} {h : sn_H} {Q : Option Value → sn_H → Prop}
    (k1 : hK h v0 = (0, 1, 14))
    (H1 : Q (some (.int (if nI 16 < (hG h v0 1) then nI 16 else (hG h v0 1)))) h) :
    wpE 30 0 [some (.ref v0)] [] h (0, 0) Q :=
  vc_s (ct := fun _ => false) 1000 false (And.intro k1 (And.intro (Nat.le_of_ble_eq_true rfl) H1))
/-- SnapshotRings$State.rowOfCommit from 0 -/
theorem r_S_rowOfCommit_0 {v0 : Nat} {v1 : Int32} {h : sn_H} {Q : Option Value → sn_H → Prop}
    (H1 : Q (some (.int (nI 8 + ((v1 - nI 1) &&& nI 15)))) h) :
    wpE 31 0 [some (.ref v0), some (.int v1)] [] h (0, 0) Q :=
  vc_s (ct := fun _ => false) 1000 false H1
/-- SnapshotRings$State.dependencySum from 0 -/
theorem r_S_dependencySum_0 {v0 : Nat} {v1 : Int32} {v2 : Int32} {v3 : Int32} {v4 : Int32} {q1 : Nat} {n1 : Nat} {q2 : Nat} {n2 : Nat} {h : sn_H} {Q : Option Value → sn_H → Prop}
    (k1 : hK h v0 = (0, 1, 14))
    (k2 : hR h v0 11 = some q1)
    (k3 : hK h q1 = (1, 0, n1))
    (k4 : hR h v0 10 = some q2)
    (k5 : hK h q2 = (1, 0, n2))
    (B1 : v4 ≤ v2 → vp_in v1 n1)
    (B2 : v4 ≤ v2 → vp_in v3 n2)
    (B3 : v4 ≤ v2 → vp_in v1 n2)
    (B4 : v4 ≤ v2 → vp_in v3 n1)
    (H5 : v4 ≤ v2 → ¬ (((hG h q1 v1.toNatClampNeg) &&& (hG h q2 v3.toNatClampNeg)) ||| ((hG h q2 v1.toNatClampNeg) &&& (hG h q1 v3.toNatClampNeg))) = 0 → wpE 34 73 [some (.ref v0), some (.int v1), some (.int v2), some (.int v3), some (.int v4), some (.int (nI 0)), some (.int ((hG h q1 v1.toNatClampNeg) &&& (hG h q2 v3.toNatClampNeg))), some (.int ((hG h q2 v1.toNatClampNeg) &&& (hG h q1 v3.toNatClampNeg))), some (.int (nI 0)), none] [] h (0, 0) Q)
    (H6 : v4 ≤ v2 → (((hG h q1 v1.toNatClampNeg) &&& (hG h q2 v3.toNatClampNeg)) ||| ((hG h q2 v1.toNatClampNeg) &&& (hG h q1 v3.toNatClampNeg))) = 0 → Q (some (.int (nI 0))) h)
    (B7 : ¬ v4 ≤ v2 → vp_in v1 n1)
    (B8 : ¬ v4 ≤ v2 → vp_in v3 n1)
    (B9 : ¬ v4 ≤ v2 → ((hG h q1 v1.toNatClampNeg) &&& (hG h q1 v3.toNatClampNeg)) = 0 → vp_in v3 n2)
    (B10 : ¬ v4 ≤ v2 → ((hG h q1 v1.toNatClampNeg) &&& (hG h q1 v3.toNatClampNeg)) = 0 → vp_in v1 n2)
    (H11 : ¬ v4 ≤ v2 → ((hG h q1 v1.toNatClampNeg) &&& (hG h q1 v3.toNatClampNeg)) = 0 → ¬ (((hG h q1 v1.toNatClampNeg) &&& (hG h q2 v3.toNatClampNeg)) ||| ((hG h q2 v1.toNatClampNeg) &&& (hG h q1 v3.toNatClampNeg))) = 0 → wpE 34 73 [some (.ref v0), some (.int v1), some (.int v2), some (.int v3), some (.int v4), some (.int (nI 0)), some (.int ((hG h q1 v1.toNatClampNeg) &&& (hG h q2 v3.toNatClampNeg))), some (.int ((hG h q2 v1.toNatClampNeg) &&& (hG h q1 v3.toNatClampNeg))), some (.int (nI 0)), none] [] h (0, 0) Q)
    (H12 : ¬ v4 ≤ v2 → ((hG h q1 v1.toNatClampNeg) &&& (hG h q1 v3.toNatClampNeg)) = 0 → (((hG h q1 v1.toNatClampNeg) &&& (hG h q2 v3.toNatClampNeg)) ||| ((hG h q2 v1.toNatClampNeg) &&& (hG h q1 v3.toNatClampNeg))) = 0 → Q (some (.int (nI 0))) h)
    (B13 : ¬ v4 ≤ v2 → ¬ ((hG h q1 v1.toNatClampNeg) &&& (hG h q1 v3.toNatClampNeg)) = 0 → vp_in v3 n2)
    (B14 : ¬ v4 ≤ v2 → ¬ ((hG h q1 v1.toNatClampNeg) &&& (hG h q1 v3.toNatClampNeg)) = 0 → vp_in v1 n2)
    (H15 : ¬ v4 ≤ v2 → ¬ ((hG h q1 v1.toNatClampNeg) &&& (hG h q1 v3.toNatClampNeg)) = 0 → ¬ (((hG h q1 v1.toNatClampNeg) &&& (hG h q2 v3.toNatClampNeg)) ||| ((hG h q2 v1.toNatClampNeg) &&& (hG h q1 v3.toNatClampNeg))) = 0 → wpE 34 73 [some (.ref v0), some (.int v1), some (.int v2), some (.int v3), some (.int v4), some (.int (nI 1)), some (.int ((hG h q1 v1.toNatClampNeg) &&& (hG h q2 v3.toNatClampNeg))), some (.int ((hG h q2 v1.toNatClampNeg) &&& (hG h q1 v3.toNatClampNeg))), some (.int (nI 0)), none] [] h (0, 0) Q)
    (H16 : ¬ v4 ≤ v2 → ¬ ((hG h q1 v1.toNatClampNeg) &&& (hG h q1 v3.toNatClampNeg)) = 0 → (((hG h q1 v1.toNatClampNeg) &&& (hG h q2 v3.toNatClampNeg)) ||| ((hG h q2 v1.toNatClampNeg) &&& (hG h q1 v3.toNatClampNeg))) = 0 → Q (some (.int (nI 1))) h) :
    wpE 34 0 [some (.ref v0), some (.int v1), some (.int v2), some (.int v3), some (.int v4), none, none, none, none, none] [] h (0, 0) Q :=
  vc_s (ct := fun pc => Nat.beq pc 73) 1000 false (And.intro (fun c1 => (And.intro (Nat.le_of_ble_eq_true rfl) (And.intro k1 (Exists.intro q1 (And.intro k2 (Exists.intro 0 (Exists.intro n1 (And.intro k3 (And.intro (B1 c1) (And.intro k1 (Exists.intro q2 (And.intro k4 (Exists.intro 0 (Exists.intro n2 (And.intro k5 (And.intro (B2 c1) (And.intro (Nat.le_of_ble_eq_true rfl) (And.intro k1 (Exists.intro q2 (And.intro k4 (Exists.intro 0 (Exists.intro n2 (And.intro k5 (And.intro (B3 c1) (And.intro k1 (Exists.intro q1 (And.intro k2 (Exists.intro 0 (Exists.intro n1 (And.intro k3 (And.intro (B4 c1) (And.intro (Nat.le_of_ble_eq_true rfl) (And.intro (fun c2 => (And.intro (Nat.le_of_ble_eq_true rfl) (H5 c1 c2))) (fun c3 => (H6 c1 c3))))))))))))))))))))))))))))))))))) (fun c4 => (And.intro k1 (Exists.intro q1 (And.intro k2 (Exists.intro 0 (Exists.intro n1 (And.intro k3 (And.intro (B7 c4) (And.intro k1 (Exists.intro q1 (And.intro k2 (Exists.intro 0 (Exists.intro n1 (And.intro k3 (And.intro (B8 c4) (And.intro (fun c5 => (And.intro (Nat.le_of_ble_eq_true rfl) (And.intro k1 (Exists.intro q1 (And.intro k2 (Exists.intro 0 (Exists.intro n1 (And.intro k3 (And.intro (B7 c4) (And.intro k1 (Exists.intro q2 (And.intro k4 (Exists.intro 0 (Exists.intro n2 (And.intro k5 (And.intro (B9 c4 c5) (And.intro (Nat.le_of_ble_eq_true rfl) (And.intro k1 (Exists.intro q2 (And.intro k4 (Exists.intro 0 (Exists.intro n2 (And.intro k5 (And.intro (B10 c4 c5) (And.intro k1 (Exists.intro q1 (And.intro k2 (Exists.intro 0 (Exists.intro n1 (And.intro k3 (And.intro (B8 c4) (And.intro (Nat.le_of_ble_eq_true rfl) (And.intro (fun c6 => (And.intro (Nat.le_of_ble_eq_true rfl) (H11 c4 c5 c6))) (fun c7 => (H12 c4 c5 c7))))))))))))))))))))))))))))))))))) (fun c8 => (And.intro (Nat.le_of_ble_eq_true rfl) (And.intro k1 (Exists.intro q1 (And.intro k2 (Exists.intro 0 (Exists.intro n1 (And.intro k3 (And.intro (B7 c4) (And.intro k1 (Exists.intro q2 (And.intro k4 (Exists.intro 0 (Exists.intro n2 (And.intro k5 (And.intro (B13 c4 c8) (And.intro (Nat.le_of_ble_eq_true rfl) (And.intro k1 (Exists.intro q2 (And.intro k4 (Exists.intro 0 (Exists.intro n2 (And.intro k5 (And.intro (B14 c4 c8) (And.intro k1 (Exists.intro q1 (And.intro k2 (Exists.intro 0 (Exists.intro n1 (And.intro k3 (And.intro (B8 c4) (And.intro (Nat.le_of_ble_eq_true rfl) (And.intro (fun c9 => (And.intro (Nat.le_of_ble_eq_true rfl) (H15 c4 c8 c9))) (fun c10 => (H16 c4 c8 c10))))))))))))))))))))))))))))))))))))))))))))))))))))
/-- SnapshotRings$State.dependencySum from 73 -/
theorem r_S_dependencySum_73 {v0 : Nat} {v1 : Int32} {v2 : Int32} {v3 : Int32} {v4 : Int32} {v5 : Int32} {v6 : Int32} {v7 : Int32} {v8 : Int32} {q1 : Nat} {n1 : Nat} {h : sn_H} {Q : Option Value → sn_H → Prop}
    (k1 : hK h v0 = (0, 1, 14))
    (k2 : hR h v0 12 = some q1)
    (k3 : hK h q1 = (1, 0, n1))
    (H1 : nI 12 ≤ v8 → Q (some (.int v5)) h)
    (H2 : ¬ nI 12 ≤ v8 → (v6 &&& (nI 1 <<< (v8 &&& 31))) = 0 → (v7 &&& (nI 1 <<< (v8 &&& 31))) = 0 → wpE 34 73 [some (.ref v0), some (.int v1), some (.int v2), some (.int v3), some (.int v4), some (.int v5), some (.int v6), some (.int v7), some (.int (v8 + nI 1)), none] [] h (0, 0) Q)
    (B3 : ¬ nI 12 ≤ v8 → (v6 &&& (nI 1 <<< (v8 &&& 31))) = 0 → ¬ (v7 &&& (nI 1 <<< (v8 &&& 31))) = 0 → vp_in ((v1 * nI 12) + v8) n1)
    (H4 : ¬ nI 12 ≤ v8 → (v6 &&& (nI 1 <<< (v8 &&& 31))) = 0 → ¬ (v7 &&& (nI 1 <<< (v8 &&& 31))) = 0 → v4 ≤ (hG h q1 ((v1 * nI 12) + v8).toNatClampNeg) → wpE 34 73 [some (.ref v0), some (.int v1), some (.int v2), some (.int v3), some (.int v4), some (.int v5), some (.int v6), some (.int v7), some (.int (v8 + nI 1)), none] [] h (0, 0) Q)
    (H5 : ¬ nI 12 ≤ v8 → (v6 &&& (nI 1 <<< (v8 &&& 31))) = 0 → ¬ (v7 &&& (nI 1 <<< (v8 &&& 31))) = 0 → ¬ v4 ≤ (hG h q1 ((v1 * nI 12) + v8).toNatClampNeg) → wpE 34 73 [some (.ref v0), some (.int v1), some (.int v2), some (.int v3), some (.int v4), some (.int (v5 ||| nI 4)), some (.int v6), some (.int v7), some (.int (v8 + nI 1)), none] [] h (0, 0) Q)
    (B6 : ¬ nI 12 ≤ v8 → ¬ (v6 &&& (nI 1 <<< (v8 &&& 31))) = 0 → vp_in ((v3 * nI 12) + v8) n1)
    (H7 : ¬ nI 12 ≤ v8 → ¬ (v6 &&& (nI 1 <<< (v8 &&& 31))) = 0 → ¬ (hG h q1 ((v3 * nI 12) + v8).toNatClampNeg) = v2 → (v7 &&& (nI 1 <<< (v8 &&& 31))) = 0 → wpE 34 73 [some (.ref v0), some (.int v1), some (.int v2), some (.int v3), some (.int v4), some (.int v5), some (.int v6), some (.int v7), some (.int (v8 + nI 1)), none] [] h (0, 0) Q)
    (B8 : ¬ nI 12 ≤ v8 → ¬ (v6 &&& (nI 1 <<< (v8 &&& 31))) = 0 → ¬ (hG h q1 ((v3 * nI 12) + v8).toNatClampNeg) = v2 → ¬ (v7 &&& (nI 1 <<< (v8 &&& 31))) = 0 → vp_in ((v1 * nI 12) + v8) n1)
    (H9 : ¬ nI 12 ≤ v8 → ¬ (v6 &&& (nI 1 <<< (v8 &&& 31))) = 0 → ¬ (hG h q1 ((v3 * nI 12) + v8).toNatClampNeg) = v2 → ¬ (v7 &&& (nI 1 <<< (v8 &&& 31))) = 0 → v4 ≤ (hG h q1 ((v1 * nI 12) + v8).toNatClampNeg) → wpE 34 73 [some (.ref v0), some (.int v1), some (.int v2), some (.int v3), some (.int v4), some (.int v5), some (.int v6), some (.int v7), some (.int (v8 + nI 1)), none] [] h (0, 0) Q)
    (H10 : ¬ nI 12 ≤ v8 → ¬ (v6 &&& (nI 1 <<< (v8 &&& 31))) = 0 → ¬ (hG h q1 ((v3 * nI 12) + v8).toNatClampNeg) = v2 → ¬ (v7 &&& (nI 1 <<< (v8 &&& 31))) = 0 → ¬ v4 ≤ (hG h q1 ((v1 * nI 12) + v8).toNatClampNeg) → wpE 34 73 [some (.ref v0), some (.int v1), some (.int v2), some (.int v3), some (.int v4), some (.int (v5 ||| nI 4)), some (.int v6), some (.int v7), some (.int (v8 + nI 1)), none] [] h (0, 0) Q)
    (H11 : ¬ nI 12 ≤ v8 → ¬ (v6 &&& (nI 1 <<< (v8 &&& 31))) = 0 → (hG h q1 ((v3 * nI 12) + v8).toNatClampNeg) = v2 → (v7 &&& (nI 1 <<< (v8 &&& 31))) = 0 → wpE 34 73 [some (.ref v0), some (.int v1), some (.int v2), some (.int v3), some (.int v4), some (.int (v5 ||| nI 2)), some (.int v6), some (.int v7), some (.int (v8 + nI 1)), none] [] h (0, 0) Q)
    (B12 : ¬ nI 12 ≤ v8 → ¬ (v6 &&& (nI 1 <<< (v8 &&& 31))) = 0 → (hG h q1 ((v3 * nI 12) + v8).toNatClampNeg) = v2 → ¬ (v7 &&& (nI 1 <<< (v8 &&& 31))) = 0 → vp_in ((v1 * nI 12) + v8) n1)
    (H13 : ¬ nI 12 ≤ v8 → ¬ (v6 &&& (nI 1 <<< (v8 &&& 31))) = 0 → (hG h q1 ((v3 * nI 12) + v8).toNatClampNeg) = v2 → ¬ (v7 &&& (nI 1 <<< (v8 &&& 31))) = 0 → v4 ≤ (hG h q1 ((v1 * nI 12) + v8).toNatClampNeg) → wpE 34 73 [some (.ref v0), some (.int v1), some (.int v2), some (.int v3), some (.int v4), some (.int (v5 ||| nI 2)), some (.int v6), some (.int v7), some (.int (v8 + nI 1)), none] [] h (0, 0) Q)
    (H14 : ¬ nI 12 ≤ v8 → ¬ (v6 &&& (nI 1 <<< (v8 &&& 31))) = 0 → (hG h q1 ((v3 * nI 12) + v8).toNatClampNeg) = v2 → ¬ (v7 &&& (nI 1 <<< (v8 &&& 31))) = 0 → ¬ v4 ≤ (hG h q1 ((v1 * nI 12) + v8).toNatClampNeg) → wpE 34 73 [some (.ref v0), some (.int v1), some (.int v2), some (.int v3), some (.int v4), some (.int ((v5 ||| nI 2) ||| nI 4)), some (.int v6), some (.int v7), some (.int (v8 + nI 1)), none] [] h (0, 0) Q) :
    wpE 34 73 [some (.ref v0), some (.int v1), some (.int v2), some (.int v3), some (.int v4), some (.int v5), some (.int v6), some (.int v7), some (.int v8), none] [] h (0, 0) Q :=
  vc_s (ct := fun pc => Nat.beq pc 73) 1000 false (And.intro (fun c1 => (H1 c1)) (fun c2 => (And.intro (Nat.le_of_ble_eq_true rfl) (And.intro (fun c3 => (And.intro (fun c4 => (And.intro (Nat.le_of_ble_eq_true rfl) (@wpE_w _ _ [some (.ref v0), some (.int v1), some (.int v2), some (.int v3), some (.int v4), some (.int v5), some (.int v6), some (.int v7), some (.int (v8 + nI 1)), none] _ _ _ _ _ (show LeL [some (.ref v0), some (.int v1), some (.int v2), some (.int v3), some (.int v4), some (.int v5), some (.int v6), some (.int v7), some (.int (v8 + nI 1)), none] [some (.ref v0), some (.int v1), some (.int v2), some (.int v3), some (.int v4), some (.int v5), some (.int v6), some (.int v7), some (.int (v8 + nI 1)), some (.int (nI 1 <<< (v8 &&& 31)))] from (And.intro rfl (And.intro rfl (And.intro rfl (And.intro rfl (And.intro rfl (And.intro rfl (And.intro rfl (And.intro rfl (And.intro rfl trivial)))))))))) (H2 c2 c3 c4)))) (fun c5 => (And.intro k1 (Exists.intro q1 (And.intro k2 (Exists.intro 0 (Exists.intro n1 (And.intro k3 (And.intro (B3 c2 c3 c5) (And.intro (fun c6 => (And.intro (Nat.le_of_ble_eq_true rfl) (@wpE_w _ _ [some (.ref v0), some (.int v1), some (.int v2), some (.int v3), some (.int v4), some (.int v5), some (.int v6), some (.int v7), some (.int (v8 + nI 1)), none] _ _ _ _ _ (show LeL [some (.ref v0), some (.int v1), some (.int v2), some (.int v3), some (.int v4), some (.int v5), some (.int v6), some (.int v7), some (.int (v8 + nI 1)), none] [some (.ref v0), some (.int v1), some (.int v2), some (.int v3), some (.int v4), some (.int v5), some (.int v6), some (.int v7), some (.int (v8 + nI 1)), some (.int (nI 1 <<< (v8 &&& 31)))] from (And.intro rfl (And.intro rfl (And.intro rfl (And.intro rfl (And.intro rfl (And.intro rfl (And.intro rfl (And.intro rfl (And.intro rfl trivial)))))))))) (H4 c2 c3 c5 c6)))) (fun c7 => (And.intro (Nat.le_of_ble_eq_true rfl) (And.intro (Nat.le_of_ble_eq_true rfl) (@wpE_w _ _ [some (.ref v0), some (.int v1), some (.int v2), some (.int v3), some (.int v4), some (.int (v5 ||| nI 4)), some (.int v6), some (.int v7), some (.int (v8 + nI 1)), none] _ _ _ _ _ (show LeL [some (.ref v0), some (.int v1), some (.int v2), some (.int v3), some (.int v4), some (.int (v5 ||| nI 4)), some (.int v6), some (.int v7), some (.int (v8 + nI 1)), none] [some (.ref v0), some (.int v1), some (.int v2), some (.int v3), some (.int v4), some (.int (v5 ||| nI 4)), some (.int v6), some (.int v7), some (.int (v8 + nI 1)), some (.int (nI 1 <<< (v8 &&& 31)))] from (And.intro rfl (And.intro rfl (And.intro rfl (And.intro rfl (And.intro rfl (And.intro rfl (And.intro rfl (And.intro rfl (And.intro rfl trivial)))))))))) (H5 c2 c3 c5 c7)))))))))))))))) (fun c8 => (And.intro k1 (Exists.intro q1 (And.intro k2 (Exists.intro 0 (Exists.intro n1 (And.intro k3 (And.intro (B6 c2 c8) (And.intro (fun c9 => (And.intro (fun c10 => (And.intro (Nat.le_of_ble_eq_true rfl) (@wpE_w _ _ [some (.ref v0), some (.int v1), some (.int v2), some (.int v3), some (.int v4), some (.int v5), some (.int v6), some (.int v7), some (.int (v8 + nI 1)), none] _ _ _ _ _ (show LeL [some (.ref v0), some (.int v1), some (.int v2), some (.int v3), some (.int v4), some (.int v5), some (.int v6), some (.int v7), some (.int (v8 + nI 1)), none] [some (.ref v0), some (.int v1), some (.int v2), some (.int v3), some (.int v4), some (.int v5), some (.int v6), some (.int v7), some (.int (v8 + nI 1)), some (.int (nI 1 <<< (v8 &&& 31)))] from (And.intro rfl (And.intro rfl (And.intro rfl (And.intro rfl (And.intro rfl (And.intro rfl (And.intro rfl (And.intro rfl (And.intro rfl trivial)))))))))) (H7 c2 c8 c9 c10)))) (fun c11 => (And.intro k1 (Exists.intro q1 (And.intro k2 (Exists.intro 0 (Exists.intro n1 (And.intro k3 (And.intro (B8 c2 c8 c9 c11) (And.intro (fun c12 => (And.intro (Nat.le_of_ble_eq_true rfl) (@wpE_w _ _ [some (.ref v0), some (.int v1), some (.int v2), some (.int v3), some (.int v4), some (.int v5), some (.int v6), some (.int v7), some (.int (v8 + nI 1)), none] _ _ _ _ _ (show LeL [some (.ref v0), some (.int v1), some (.int v2), some (.int v3), some (.int v4), some (.int v5), some (.int v6), some (.int v7), some (.int (v8 + nI 1)), none] [some (.ref v0), some (.int v1), some (.int v2), some (.int v3), some (.int v4), some (.int v5), some (.int v6), some (.int v7), some (.int (v8 + nI 1)), some (.int (nI 1 <<< (v8 &&& 31)))] from (And.intro rfl (And.intro rfl (And.intro rfl (And.intro rfl (And.intro rfl (And.intro rfl (And.intro rfl (And.intro rfl (And.intro rfl trivial)))))))))) (H9 c2 c8 c9 c11 c12)))) (fun c13 => (And.intro (Nat.le_of_ble_eq_true rfl) (And.intro (Nat.le_of_ble_eq_true rfl) (@wpE_w _ _ [some (.ref v0), some (.int v1), some (.int v2), some (.int v3), some (.int v4), some (.int (v5 ||| nI 4)), some (.int v6), some (.int v7), some (.int (v8 + nI 1)), none] _ _ _ _ _ (show LeL [some (.ref v0), some (.int v1), some (.int v2), some (.int v3), some (.int v4), some (.int (v5 ||| nI 4)), some (.int v6), some (.int v7), some (.int (v8 + nI 1)), none] [some (.ref v0), some (.int v1), some (.int v2), some (.int v3), some (.int v4), some (.int (v5 ||| nI 4)), some (.int v6), some (.int v7), some (.int (v8 + nI 1)), some (.int (nI 1 <<< (v8 &&& 31)))] from (And.intro rfl (And.intro rfl (And.intro rfl (And.intro rfl (And.intro rfl (And.intro rfl (And.intro rfl (And.intro rfl (And.intro rfl trivial)))))))))) (H10 c2 c8 c9 c11 c13)))))))))))))))) (fun c14 => (And.intro (Nat.le_of_ble_eq_true rfl) (And.intro (fun c15 => (And.intro (Nat.le_of_ble_eq_true rfl) (@wpE_w _ _ [some (.ref v0), some (.int v1), some (.int v2), some (.int v3), some (.int v4), some (.int (v5 ||| nI 2)), some (.int v6), some (.int v7), some (.int (v8 + nI 1)), none] _ _ _ _ _ (show LeL [some (.ref v0), some (.int v1), some (.int v2), some (.int v3), some (.int v4), some (.int (v5 ||| nI 2)), some (.int v6), some (.int v7), some (.int (v8 + nI 1)), none] [some (.ref v0), some (.int v1), some (.int v2), some (.int v3), some (.int v4), some (.int (v5 ||| nI 2)), some (.int v6), some (.int v7), some (.int (v8 + nI 1)), some (.int (nI 1 <<< (v8 &&& 31)))] from (And.intro rfl (And.intro rfl (And.intro rfl (And.intro rfl (And.intro rfl (And.intro rfl (And.intro rfl (And.intro rfl (And.intro rfl trivial)))))))))) (H11 c2 c8 c14 c15)))) (fun c16 => (And.intro k1 (Exists.intro q1 (And.intro k2 (Exists.intro 0 (Exists.intro n1 (And.intro k3 (And.intro (B12 c2 c8 c14 c16) (And.intro (fun c17 => (And.intro (Nat.le_of_ble_eq_true rfl) (@wpE_w _ _ [some (.ref v0), some (.int v1), some (.int v2), some (.int v3), some (.int v4), some (.int (v5 ||| nI 2)), some (.int v6), some (.int v7), some (.int (v8 + nI 1)), none] _ _ _ _ _ (show LeL [some (.ref v0), some (.int v1), some (.int v2), some (.int v3), some (.int v4), some (.int (v5 ||| nI 2)), some (.int v6), some (.int v7), some (.int (v8 + nI 1)), none] [some (.ref v0), some (.int v1), some (.int v2), some (.int v3), some (.int v4), some (.int (v5 ||| nI 2)), some (.int v6), some (.int v7), some (.int (v8 + nI 1)), some (.int (nI 1 <<< (v8 &&& 31)))] from (And.intro rfl (And.intro rfl (And.intro rfl (And.intro rfl (And.intro rfl (And.intro rfl (And.intro rfl (And.intro rfl (And.intro rfl trivial)))))))))) (H13 c2 c8 c14 c16 c17)))) (fun c18 => (And.intro (Nat.le_of_ble_eq_true rfl) (And.intro (Nat.le_of_ble_eq_true rfl) (@wpE_w _ _ [some (.ref v0), some (.int v1), some (.int v2), some (.int v3), some (.int v4), some (.int ((v5 ||| nI 2) ||| nI 4)), some (.int v6), some (.int v7), some (.int (v8 + nI 1)), none] _ _ _ _ _ (show LeL [some (.ref v0), some (.int v1), some (.int v2), some (.int v3), some (.int v4), some (.int ((v5 ||| nI 2) ||| nI 4)), some (.int v6), some (.int v7), some (.int (v8 + nI 1)), none] [some (.ref v0), some (.int v1), some (.int v2), some (.int v3), some (.int v4), some (.int ((v5 ||| nI 2) ||| nI 4)), some (.int v6), some (.int v7), some (.int (v8 + nI 1)), some (.int (nI 1 <<< (v8 &&& 31)))] from (And.intro rfl (And.intro rfl (And.intro rfl (And.intro rfl (And.intro rfl (And.intro rfl (And.intro rfl (And.intro rfl (And.intro rfl trivial)))))))))) (H14 c2 c8 c14 c16 c18))))))))))))))))))))))))))))))
/-- SnapshotRings$State.free from 0 -/
theorem r_S_free_0 {v0 : Nat} {v1 : Int32} {h : sn_H} {Q : Option Value → sn_H → Prop}
    (k1 : hK h v0 = (0, 1, 14))
    (H1 : Q none (setG h v0 3 ((hG h v0 3) &&& ((nI 1 <<< (v1 &&& 31)) ^^^ -(nI 1))))) :
    wpE 42 0 [some (.ref v0), some (.int v1)] [] h (0, 0) Q :=
  vc_s (ct := fun _ => false) 1000 false (And.intro rfl (And.intro k1 (And.intro k1 (And.intro rfl (And.intro rfl H1)))))
/-- SnapshotRings$State.refuse from 0 -/
theorem r_S_refuse_0 {v0 : Nat} {v1 : Int32} {v2 : Int32} {q1 : Nat} {n1 : Nat} {h : sn_H} {Q : Option Value → sn_H → Prop}
    (k1 : hK h v0 = (0, 1, 14))
    (k2 : hR h v0 4 = some q1)
    (k3 : hK h q1 = (1, 0, n1))
    (B1 : vp_in v2 n1)
    (H2 : Q none (setG (setG h v0 3 ((hG h v0 3) &&& ((nI 1 <<< (v1 &&& 31)) ^^^ -(nI 1)))) q1 v2.toNatClampNeg ((hG (setG h v0 3 ((hG h v0 3) &&& ((nI 1 <<< (v1 &&& 31)) ^^^ -(nI 1)))) q1 v2.toNatClampNeg) + nI 1))) :
    wpE 41 0 [some (.ref v0), some (.int v1), some (.int v2)] [] h (0, 0) Q :=
  vc_s (ct := fun _ => false) 1000 false (And.intro k1 (And.intro (Nat.le_of_ble_eq_true rfl) (And.intro (Nat.le_of_ble_eq_true rfl) (And.intro (Nat.le_of_ble_eq_true rfl) (And.intro (Nat.le_of_ble_eq_true rfl) (r_S_free_0 (v0 := v0) (v1 := v1) (h := h) k1 ((vc_s (ct := fun _ => false) 1000 false (And.intro k1 (Exists.intro q1 (And.intro k2 (And.intro rfl (And.intro rfl (Exists.intro 0 (Exists.intro n1 (And.intro k3 (And.intro B1 (Exists.intro n1 (And.intro k3 (And.intro B1 (And.intro rfl H2)))))))))))))))))))))
/-- SnapshotRings$State.keepCommit from 0 -/
theorem r_S_keepCommit_0 {v0 : Nat} {v1 : Int32} {h : sn_H} {Q : Option Value → sn_H → Prop}
    (k1 : hK h v0 = (0, 1, 14))
    (H1 : wpE 43 15 [some (.ref v0), some (.int v1), none, none] [] (setG (setG h v0 3 ((hG h v0 3) &&& ((nI 1 <<< (v1 &&& 31)) ^^^ -(nI 1)))) v0 1 ((hG (setG h v0 3 ((hG h v0 3) &&& ((nI 1 <<< (v1 &&& 31)) ^^^ -(nI 1)))) v0 1) + nI 1)) (0, 0) Q) :
    wpE 43 0 [some (.ref v0), some (.int v1), none, none] [] h (0, 0) Q :=
  vc_s (ct := fun pc => Nat.beq pc 15 || Nat.beq pc 48 || Nat.beq pc 83 || Nat.beq pc 129) 1000 false (And.intro k1 (And.intro (Nat.le_of_ble_eq_true rfl) (And.intro (Nat.le_of_ble_eq_true rfl) (And.intro (Nat.le_of_ble_eq_true rfl) (And.intro (Nat.le_of_ble_eq_true rfl) (r_S_free_0 (v0 := v0) (v1 := v1) (h := h) k1 ((vc_s (ct := fun pc => Nat.beq pc 15 || Nat.beq pc 48 || Nat.beq pc 83 || Nat.beq pc 129) 1000 false (And.intro rfl (And.intro k1 (And.intro k1 (And.intro rfl H1))))))))))))
/-- SnapshotRings$State.keepCommit from 15 -/
theorem r_S_keepCommit_15 {v0 : Nat} {v1 : Int32} {q1 : Nat} {n1 : Nat} {q2 : Nat} {n2 : Nat} {h : sn_H} {Q : Option Value → sn_H → Prop}
    (k1 : hK h v0 = (0, 1, 14))
    (k2 : hR h v0 9 = some q1)
    (k3 : hK h q1 = (1, 0, n1))
    (k4 : hR h v0 10 = some q2)
    (k5 : hK h q2 = (1, 0, n2))
    (B1 : vp_in v1 n1)
    (B2 : vp_in (nI 8 + (((hG h v0 1) - nI 1) &&& nI 15)) n1)
    (B3 : vp_in v1 n2)
    (B4 : vp_in (nI 8 + (((hG h v0 1) - nI 1) &&& nI 15)) n2)
    (H5 : wpE 43 48 [some (.ref v0), some (.int v1), some (.int (nI 8 + (((hG h v0 1) - nI 1) &&& nI 15))), none] [] (setG (setG h q1 (nI 8 + (((hG h v0 1) - nI 1) &&& nI 15)).toNatClampNeg (hG h q1 v1.toNatClampNeg)) q2 (nI 8 + (((hG h v0 1) - nI 1) &&& nI 15)).toNatClampNeg (hG (setG h q1 (nI 8 + (((hG h v0 1) - nI 1) &&& nI 15)).toNatClampNeg (hG h q1 v1.toNatClampNeg)) q2 v1.toNatClampNeg)) (0, 0) Q) :
    wpE 43 15 [some (.ref v0), some (.int v1), none, none] [] h (0, 0) Q :=
  vc_s (ct := fun pc => Nat.beq pc 15 || Nat.beq pc 48 || Nat.beq pc 83 || Nat.beq pc 129) 1000 false (And.intro k1 (And.intro k1 (And.intro (Nat.le_of_ble_eq_true rfl) (And.intro (Nat.le_of_ble_eq_true rfl) (And.intro (Nat.le_of_ble_eq_true rfl) (And.intro (Nat.le_of_ble_eq_true rfl) (r_S_rowOfCommit_0 (v0 := v0) (v1 := (hG h v0 1)) (h := h) ((vc_s (ct := fun pc => Nat.beq pc 15 || Nat.beq pc 48 || Nat.beq pc 83 || Nat.beq pc 129) 1000 false (And.intro (Nat.le_of_ble_eq_true rfl) (And.intro k1 (Exists.intro q1 (And.intro k2 (And.intro k1 (Exists.intro q1 (And.intro k2 (Exists.intro 0 (Exists.intro n1 (And.intro k3 (And.intro B1 (Exists.intro n1 (And.intro k3 (And.intro B2 (And.intro k1 (Exists.intro q2 (And.intro k4 (And.intro k1 (Exists.intro q2 (And.intro k4 (Exists.intro 0 (Exists.intro n2 (And.intro k5 (And.intro B3 (Exists.intro n2 (And.intro k5 (And.intro B4 H5))))))))))))))))))))))))))))))))))))
/-- SnapshotRings$State.keepCommit from 48 -/
theorem r_S_keepCommit_48 {v0 : Nat} {v1 : Int32} {v2 : Int32} {q1 : Nat} {n1 : Nat} {q2 : Nat} {n2 : Nat} {n3 : Nat} {n4 : Nat} {h : sn_H} {Q : Option Value → sn_H → Prop}
    (k1 : hK h v0 = (0, 1, 14))
    (k2 : hR h v0 11 = some q1)
    (k3 : hK h q1 = (1, 0, n1))
    (k4 : hR h v0 12 = some q2)
    (k5 : hK h q2 = (1, 0, n2))
    (B1 : vp_in v1 n1)
    (B2 : vp_in v2 n1)
    (B3 : (v1 * nI 12) = nI n3)
    (B4 : n3 < 65536)
    (B5 : (v2 * nI 12) = nI n4)
    (B6 : n4 < 65536)
    (B7 : n3 + 12 ≤ n2)
    (B8 : n4 + 12 ≤ n2)
    (H9 : wpE 43 83 [some (.ref v0), some (.int v1), none, some (.int (nI 0))] [] (cpG (setG h q1 v2.toNatClampNeg (hG h q1 v1.toNatClampNeg)) q2 n3 q2 n4 12) (0, 0) Q) :
    wpE 43 48 [some (.ref v0), some (.int v1), some (.int v2), none] [] h (0, 0) Q :=
  vc_s (ct := fun pc => Nat.beq pc 15 || Nat.beq pc 48 || Nat.beq pc 83 || Nat.beq pc 129) 1000 false (And.intro k1 (Exists.intro q1 (And.intro k2 (And.intro k1 (Exists.intro q1 (And.intro k2 (Exists.intro 0 (Exists.intro n1 (And.intro k3 (And.intro B1 (Exists.intro n1 (And.intro k3 (And.intro B2 (And.intro k1 (Exists.intro q2 (And.intro k4 (And.intro k1 (Exists.intro q2 (And.intro k4 (Exists.intro n3 (Exists.intro n4 (Exists.intro 12 (Exists.intro n2 (Exists.intro n2 (And.intro B3 (And.intro B5 (And.intro rfl (And.intro B4 (And.intro B6 (And.intro (Nat.le_of_ble_eq_true rfl) (And.intro k5 (And.intro k5 (And.intro B7 (And.intro B8 (And.intro (Nat.le_of_ble_eq_true rfl) (And.intro (Nat.le_of_ble_eq_true rfl) (@wpE_w _ _ [some (.ref v0), some (.int v1), none, some (.int (nI 0))] _ _ _ _ _ (show LeL [some (.ref v0), some (.int v1), none, some (.int (nI 0))] [some (.ref v0), some (.int v1), some (.int v2), some (.int (nI 0))] from (And.intro rfl (And.intro rfl (And.intro rfl trivial)))) H9)))))))))))))))))))))))))))))))))))))
/-- SnapshotRings$State.keepCommit from 83 -/
theorem r_S_keepCommit_83 {v0 : Nat} {v1 : Int32} {v3 : Int32} {q1 : Nat} {n1 : Nat} {q2 : Nat} {q3 : Nat} {n2 : Nat} {n3 : Nat} {q4 : Nat} {n4 : Nat} {h : sn_H} {Q : Option Value → sn_H → Prop}
    (k1 : hK h v0 = (0, 1, 14))
    (k2 : hR h v0 11 = some q1)
    (k3 : hK h q1 = (1, 0, n1))
    (k4 : hR h v0 7 = some q2)
    (k5 : hR h v0 13 = some q3)
    (k6 : hK h q3 = (1, 0, n2))
    (k7 : hK h q2 = (1, 0, n3))
    (k8 : hR h v0 8 = some q4)
    (k9 : hK h q4 = (1, 0, n4))
    (H1 : nI 12 ≤ v3 → Q (some (.int (hG h v0 1))) h)
    (B2 : ¬ nI 12 ≤ v3 → vp_in v1 n1)
    (H3 : ¬ nI 12 ≤ v3 → ¬ (((hG h q1 v1.toNatClampNeg) >>> (v3 &&& 31)) &&& nI 1) = nI 1 → wpE 43 129 [some (.ref v0), some (.int v1), none, some (.int v3)] [] h (0, 0) Q)
    (B4 : ¬ nI 12 ≤ v3 → (((hG h q1 v1.toNatClampNeg) >>> (v3 &&& 31)) &&& nI 1) = nI 1 → vp_in ((v1 * nI 12) + v3) n2)
    (B5 : ¬ nI 12 ≤ v3 → (((hG h q1 v1.toNatClampNeg) >>> (v3 &&& 31)) &&& nI 1) = nI 1 → vp_in v3 n3)
    (B6 : ¬ nI 12 ≤ v3 → (((hG h q1 v1.toNatClampNeg) >>> (v3 &&& 31)) &&& nI 1) = nI 1 → vp_in v3 n4)
    (H7 : ¬ nI 12 ≤ v3 → (((hG h q1 v1.toNatClampNeg) >>> (v3 &&& 31)) &&& nI 1) = nI 1 → wpE 43 129 [some (.ref v0), some (.int v1), none, some (.int v3)] [] (setG (setG h q2 v3.toNatClampNeg (hG h q3 ((v1 * nI 12) + v3).toNatClampNeg)) q4 v3.toNatClampNeg (hG (setG h q2 v3.toNatClampNeg (hG h q3 ((v1 * nI 12) + v3).toNatClampNeg)) v0 1)) (0, 0) Q) :
    wpE 43 83 [some (.ref v0), some (.int v1), none, some (.int v3)] [] h (0, 0) Q :=
  vc_s (ct := fun pc => Nat.beq pc 15 || Nat.beq pc 48 || Nat.beq pc 83 || Nat.beq pc 129) 1000 false (And.intro (fun c1 => (And.intro k1 (H1 c1))) (fun c2 => (And.intro k1 (Exists.intro q1 (And.intro k2 (Exists.intro 0 (Exists.intro n1 (And.intro k3 (And.intro (B2 c2) (And.intro (Nat.le_of_ble_eq_true rfl) (And.intro (Nat.le_of_ble_eq_true rfl) (And.intro (Nat.le_of_ble_eq_true rfl) (And.intro (Nat.le_of_ble_eq_true rfl) (r_X_hasBit_0 (v0 := (hG h q1 v1.toNatClampNeg)) (v1 := v3) (h := h) (fun c3 => (vc_s (ct := fun pc => Nat.beq pc 15 || Nat.beq pc 48 || Nat.beq pc 83 || Nat.beq pc 129) 1000 false (And.intro (fun c4 => (H3 c2 c3)) (fun c4 => absurd c4 (by decide))))) (fun c5 => (vc_s (ct := fun pc => Nat.beq pc 15 || Nat.beq pc 48 || Nat.beq pc 83 || Nat.beq pc 129) 1000 false (And.intro (fun c6 => absurd c6 (by decide)) (fun c6 => (And.intro k1 (Exists.intro q2 (And.intro k4 (And.intro k1 (Exists.intro q3 (And.intro k5 (Exists.intro 0 (Exists.intro n2 (And.intro k6 (And.intro (B4 c2 c5) (Exists.intro n3 (And.intro k7 (And.intro (B5 c2 c5) (And.intro k1 (Exists.intro q4 (And.intro k8 (And.intro k1 (Exists.intro n4 (And.intro k9 (And.intro (B6 c2 c5) (H7 c2 c5)))))))))))))))))))))))))))))))))))))))
/-- SnapshotRings$State.keepCommit from 129 -/
theorem r_S_keepCommit_129 {v0 : Nat} {v1 : Int32} {v3 : Int32} {h : sn_H} {Q : Option Value → sn_H → Prop}
    (H1 : wpE 43 83 [some (.ref v0), some (.int v1), none, some (.int (v3 + nI 1))] [] h (0, 0) Q) :
    wpE 43 129 [some (.ref v0), some (.int v1), none, some (.int v3)] [] h (0, 0) Q :=
  vc_s (ct := fun pc => Nat.beq pc 15 || Nat.beq pc 48 || Nat.beq pc 83 || Nat.beq pc 129) 1000 false (And.intro (Nat.le_of_ble_eq_true rfl) H1)
/-- SnapshotRings$State.giveUp from 0 -/
theorem r_S_giveUp_0 {v0 : Nat} {v1 : Int32} {h : sn_H} {Q : Option Value → sn_H → Prop}
    (k1 : hK h v0 = (0, 1, 14))
    (H1 : wpE 45 15 [some (.ref v0), some (.int v1)] [] (setG (setG h v0 3 ((hG h v0 3) &&& ((nI 1 <<< (v1 &&& 31)) ^^^ -(nI 1)))) v0 2 ((hG (setG h v0 3 ((hG h v0 3) &&& ((nI 1 <<< (v1 &&& 31)) ^^^ -(nI 1)))) v0 2) + nI 1)) (0, 0) Q) :
    wpE 45 0 [some (.ref v0), some (.int v1)] [] h (0, 0) Q :=
  vc_s (ct := fun pc => Nat.beq pc 15) 1000 false (And.intro k1 (And.intro (Nat.le_of_ble_eq_true rfl) (And.intro (Nat.le_of_ble_eq_true rfl) (And.intro (Nat.le_of_ble_eq_true rfl) (And.intro (Nat.le_of_ble_eq_true rfl) (r_S_free_0 (v0 := v0) (v1 := v1) (h := h) k1 ((vc_s (ct := fun pc => Nat.beq pc 15) 1000 false (And.intro rfl (And.intro k1 (And.intro k1 (And.intro rfl H1))))))))))))
/-- SnapshotRings$State.giveUp from 15 -/
theorem r_S_giveUp_15 {v0 : Nat} {v1 : Int32} {q1 : Nat} {n1 : Nat} {h : sn_H} {Q : Option Value → sn_H → Prop}
    (k1 : hK h v0 = (0, 1, 14))
    (k2 : hR h v0 11 = some q1)
    (k3 : hK h q1 = (1, 0, n1))
    (B1 : vp_in v1 n1)
    (H2 : wpE 24 0 [some (.int (hG h q1 v1.toNatClampNeg))] [] h (0, 0) (fun r hh => wpE 45 24 [none, none] (r.toList ++ []) hh (0, 0) Q)) :
    wpE 45 15 [some (.ref v0), some (.int v1)] [] h (0, 0) Q :=
  vc_s (ct := fun pc => Nat.beq pc 15) 1000 false (And.intro k1 (Exists.intro q1 (And.intro k2 (Exists.intro 0 (Exists.intro n1 (And.intro k3 (And.intro B1 (And.intro (Nat.le_of_ble_eq_true rfl) (And.intro (Nat.le_of_ble_eq_true rfl) (And.intro (Nat.le_of_ble_eq_true rfl) (And.intro (Nat.le_of_ble_eq_true rfl) (wpE_m (fun _ _ HH => @wpE_w _ _ [none, none] _ _ _ _ _ (show LeL [none, none] [some (.ref v0), some (.int v1)] from trivial) HH) H2))))))))))))
/-- SnapshotRings$State.giveUp from 24 -/
theorem r_S_giveUp_24 {s0 : Int32} {h : sn_H} {Q : Option Value → sn_H → Prop}
    (H1 : Q (some (.int s0)) h) :
    wpE 45 24 [none, none] [.int s0] h (0, 0) Q :=
  vc_s (ct := fun pc => Nat.beq pc 15) 1000 false H1
/-- SnapshotRings$State.constraintIsMet from 0 -/
theorem r_S_constraintIsMet_0 {v0 : Nat} {v1 : Nat} {v2 : Int32} {v3 : Int32} {h : sn_H} {Q : Option Value → sn_H → Prop}
    (H1 : wpE 47 6 [some (.ref v0), some (.ref v1), some (.int v2), some (.int v3), some (.int (nI 0)), some (.int (nI 0))] [] h (0, 0) Q) :
    wpE 47 0 [some (.ref v0), some (.ref v1), some (.int v2), some (.int v3), none, none] [] h (0, 0) Q :=
  vc_s (ct := fun pc => Nat.beq pc 6) 1000 false (And.intro (Nat.le_of_ble_eq_true rfl) (And.intro (Nat.le_of_ble_eq_true rfl) H1))
/-- SnapshotRings$State.constraintIsMet from 6 -/
theorem r_S_constraintIsMet_6 {v0 : Nat} {v1 : Nat} {v2 : Int32} {v3 : Int32} {v4 : Int32} {v5 : Int32} {q1 : Nat} {n1 : Nat} {q2 : Nat} {n2 : Nat} {n3 : Nat} {h : sn_H} {Q : Option Value → sn_H → Prop}
    (k1 : hK h v0 = (0, 1, 14))
    (k2 : hR h v0 6 = some q1)
    (k3 : hK h q1 = (1, 0, n1))
    (k4 : hR h v0 5 = some q2)
    (k5 : hK h q2 = (1, 0, n2))
    (k6 : hK h v1 = (1, 0, n3))
    (B1 : nI 12 ≤ v5 → vp_in v3 n1)
    (H2 : nI 12 ≤ v5 → v4 < (hG h q1 v3.toNatClampNeg) → Q (some (.int (nI 0))) h)
    (H3 : nI 12 ≤ v5 → ¬ v4 < (hG h q1 v3.toNatClampNeg) → Q (some (.int (nI 1))) h)
    (B4 : ¬ nI 12 ≤ v5 → vp_in v3 n2)
    (H5 : ¬ nI 12 ≤ v5 → ¬ (((hG h q2 v3.toNatClampNeg) >>> (v5 &&& 31)) &&& nI 1) = nI 1 → wpE 47 6 [some (.ref v0), some (.ref v1), some (.int v2), some (.int v3), some (.int v4), some (.int (v5 + nI 1))] [] h (0, 0) Q)
    (B6 : ¬ nI 12 ≤ v5 → (((hG h q2 v3.toNatClampNeg) >>> (v5 &&& 31)) &&& nI 1) = nI 1 → vp_in (v2 + v5) n3)
    (H7 : ¬ nI 12 ≤ v5 → (((hG h q2 v3.toNatClampNeg) >>> (v5 &&& 31)) &&& nI 1) = nI 1 → wpE 47 6 [some (.ref v0), some (.ref v1), some (.int v2), some (.int v3), some (.int (v4 + (hG h v1 (v2 + v5).toNatClampNeg))), some (.int (v5 + nI 1))] [] h (0, 0) Q) :
    wpE 47 6 [some (.ref v0), some (.ref v1), some (.int v2), some (.int v3), some (.int v4), some (.int v5)] [] h (0, 0) Q :=
  vc_s (ct := fun pc => Nat.beq pc 6) 1000 false (And.intro (fun c1 => (And.intro k1 (Exists.intro q1 (And.intro k2 (Exists.intro 0 (Exists.intro n1 (And.intro k3 (And.intro (B1 c1) (And.intro (fun c2 => (And.intro rfl (H2 c1 c2))) (fun c3 => (And.intro rfl (H3 c1 c3)))))))))))) (fun c4 => (And.intro k1 (Exists.intro q2 (And.intro k4 (Exists.intro 0 (Exists.intro n2 (And.intro k5 (And.intro (B4 c4) (And.intro (Nat.le_of_ble_eq_true rfl) (And.intro (Nat.le_of_ble_eq_true rfl) (And.intro (Nat.le_of_ble_eq_true rfl) (And.intro (Nat.le_of_ble_eq_true rfl) (r_X_hasBit_0 (v0 := (hG h q2 v3.toNatClampNeg)) (v1 := v5) (h := h) (fun c5 => (vc_s (ct := fun pc => Nat.beq pc 6) 1000 false (And.intro (fun c6 => (And.intro (Nat.le_of_ble_eq_true rfl) (H5 c4 c5))) (fun c6 => absurd c6 (by decide))))) (fun c7 => (vc_s (ct := fun pc => Nat.beq pc 6) 1000 false (And.intro (fun c8 => absurd c8 (by decide)) (fun c8 => (Exists.intro 0 (Exists.intro n3 (And.intro k6 (And.intro (B6 c4 c7) (And.intro (Nat.le_of_ble_eq_true rfl) (And.intro (Nat.le_of_ble_eq_true rfl) (H7 c4 c7)))))))))))))))))))))))))
/-- SnapshotRings$State.partOfRow from 0 -/
theorem r_S_partOfRow_0 {v0 : Nat} {v1 : Int32} {v2 : Int32} {q1 : Nat} {n1 : Nat} {q2 : Nat} {n2 : Nat} {q3 : Nat} {n3 : Nat} {h : sn_H} {Q : Option Value → sn_H → Prop}
    (k1 : hK h v0 = (0, 1, 14))
    (k2 : hR h v0 9 = some q1)
    (k3 : hK h q1 = (1, 0, n1))
    (k4 : hR h v0 10 = some q2)
    (k5 : hK h q2 = (1, 0, n2))
    (k6 : hR h v0 11 = some q3)
    (k7 : hK h q3 = (1, 0, n3))
    (B1 : v2.toInt = 0 → vp_in v1 n1)
    (H2 : v2.toInt = 0 → Q (some (.int (hG h q1 v1.toNatClampNeg))) h)
    (B3 : v2.toInt = 1 → vp_in v1 n2)
    (H4 : v2.toInt = 1 → Q (some (.int (hG h q2 v1.toNatClampNeg))) h)
    (B5 : v2.toInt = 2 → vp_in v1 n3)
    (H6 : v2.toInt = 2 → Q (some (.int (hG h q3 v1.toNatClampNeg))) h)
    (H7 : (v2.toInt < 0 ∨ 2 < v2.toInt) → Q (some (.int (-(nI 20002)))) h) :
    wpE 63 0 [some (.ref v0), some (.int v1), some (.int v2)] [] h (0, 0) Q :=
  vc_s (ct := fun _ => false) 1000 false (And.intro (And.intro (fun c1 => (And.intro k1 (Exists.intro q1 (And.intro k2 (Exists.intro 0 (Exists.intro n1 (And.intro k3 (And.intro (B1 c1) (H2 c1))))))))) (And.intro (fun c2 => (And.intro k1 (Exists.intro q2 (And.intro k4 (Exists.intro 0 (Exists.intro n2 (And.intro k5 (And.intro (B3 c2) (H4 c2))))))))) (And.intro (fun c3 => (And.intro k1 (Exists.intro q3 (And.intro k6 (Exists.intro 0 (Exists.intro n3 (And.intro k7 (And.intro (B5 c3) (H6 c3))))))))) True.intro))) (fun c4 => (H7 c4)))
/-- SnapshotRings$State.isKept from 0 -/
theorem r_S_isKept_0 {v0 : Nat} {v1 : Int32} {h : sn_H} {Q : Option Value → sn_H → Prop}
    (k1 : hK h v0 = (0, 1, 14))
    (H1 : v1 < nI 1 → Q (some (.int (nI 0))) h)
    (H2 : ¬ v1 < nI 1 → (hG h v0 1) < v1 → Q (some (.int (nI 0))) h)
    (H3 : ¬ v1 < nI 1 → ¬ (hG h v0 1) < v1 → v1 ≤ ((hG h v0 1) - nI 16) → Q (some (.int (nI 0))) h)
    (H4 : ¬ v1 < nI 1 → ¬ (hG h v0 1) < v1 → ¬ v1 ≤ ((hG h v0 1) - nI 16) → Q (some (.int (nI 1))) h) :
    wpE 69 0 [some (.ref v0), some (.int v1)] [] h (0, 0) Q :=
  vc_s (ct := fun _ => false) 1000 false (And.intro (fun c1 => (And.intro rfl (H1 c1))) (fun c2 => (And.intro k1 (And.intro (fun c3 => (And.intro rfl (H2 c2 c3))) (fun c4 => (And.intro k1 (And.intro (fun c5 => (And.intro rfl (H3 c2 c4 c5))) (fun c6 => (And.intro rfl (H4 c2 c4 c6))))))))))
