/-! ===== regions of the methods, printed by wip/gen/mkregions.py ===== -/
/-- SnapshotRings$State.copyFrom from 0 -/
theorem r_S_copyFrom_0 {v0 : Nat} {v1 : Nat} {h : sn_H} {Q : Option Value → sn_H → Prop}
    (k1 : hK h v1 = (0, 1, 14))
    (k2 : hK h v0 = (0, 1, 14))
    (H1 : wpE 7 24 [some (.ref v0), some (.ref v1)] [] (setG (setG (setG h v0 0 (hG h v1 0)) v0 1 (hG (setG h v0 0 (hG h v1 0)) v1 1)) v0 2 (hG (setG (setG h v0 0 (hG h v1 0)) v0 1 (hG (setG h v0 0 (hG h v1 0)) v1 1)) v1 2)) (0, 0) Q) :
    wpE 7 0 [some (.ref v0), some (.ref v1)] [] h (0, 0) Q :=
  vc_s (ct := fun pc => Nat.beq pc 24 || Nat.beq pc 119) 1000 false (And.intro k1 (And.intro k2 (And.intro rfl (And.intro k1 (And.intro k2 (And.intro rfl (And.intro k1 (And.intro k2 (And.intro rfl H1)))))))))
/-- SnapshotRings$State.copyFrom from 24 -/
theorem r_S_copyFrom_24 {v0 : Nat} {v1 : Nat} {q1 : Nat} {q2 : Nat} {n1 : Nat} {n2 : Nat} {q3 : Nat} {q4 : Nat} {n3 : Nat} {n4 : Nat} {q5 : Nat} {q6 : Nat} {n5 : Nat} {n6 : Nat} {q7 : Nat} {q8 : Nat} {n7 : Nat} {n8 : Nat} {q9 : Nat} {q10 : Nat} {n9 : Nat} {n10 : Nat} {q11 : Nat} {q12 : Nat} {n11 : Nat} {n12 : Nat} {h : sn_H} {Q : Option Value → sn_H → Prop}
    (k1 : hK h v1 = (0, 1, 14))
    (k2 : hK h v0 = (0, 1, 14))
    (k3 : hR h v1 4 = some q1)
    (k4 : hR h v0 4 = some q2)
    (k5 : hK h q1 = (1, 0, n1))
    (k6 : hK h q2 = (1, 0, n2))
    (k7 : hR h v1 5 = some q3)
    (k8 : hR h v0 5 = some q4)
    (k9 : hK h q3 = (1, 0, n3))
    (k10 : hK h q4 = (1, 0, n4))
    (k11 : hR h v1 6 = some q5)
    (k12 : hR h v0 6 = some q6)
    (k13 : hK h q5 = (1, 0, n5))
    (k14 : hK h q6 = (1, 0, n6))
    (k15 : hR h v1 7 = some q7)
    (k16 : hR h v0 7 = some q8)
    (k17 : hK h q7 = (1, 0, n7))
    (k18 : hK h q8 = (1, 0, n8))
    (k19 : hR h v1 8 = some q9)
    (k20 : hR h v0 8 = some q10)
    (k21 : hK h q9 = (1, 0, n9))
    (k22 : hK h q10 = (1, 0, n10))
    (k23 : hR h v1 9 = some q11)
    (k24 : hR h v0 9 = some q12)
    (k25 : hK h q11 = (1, 0, n11))
    (k26 : hK h q12 = (1, 0, n12))
    (B1 : 0 + 4 ≤ n1)
    (B2 : 0 + 4 ≤ n2)
    (B3 : 0 + 3 ≤ n3)
    (B4 : 0 + 3 ≤ n4)
    (B5 : 0 + 3 ≤ n5)
    (B6 : 0 + 3 ≤ n6)
    (B7 : 0 + 12 ≤ n7)
    (B8 : 0 + 12 ≤ n8)
    (B9 : 0 + 12 ≤ n9)
    (B10 : 0 + 12 ≤ n10)
    (B11 : 0 + 24 ≤ n11)
    (B12 : 0 + 24 ≤ n12)
    (H13 : wpE 7 119 [some (.ref v0), some (.ref v1)] [] (cpG (cpG (cpG (cpG (cpG (cpG (setG h v0 3 (hG h v1 3)) q1 0 q2 0 4) q3 0 q4 0 3) q5 0 q6 0 3) q7 0 q8 0 12) q9 0 q10 0 12) q11 0 q12 0 24) (0, 0) Q) :
    wpE 7 24 [some (.ref v0), some (.ref v1)] [] h (0, 0) Q :=
  vc_s (ct := fun pc => Nat.beq pc 24 || Nat.beq pc 119) 1000 false (And.intro k1 (And.intro k2 (And.intro rfl (And.intro k1 (Exists.intro q1 (And.intro k3 (And.intro k2 (Exists.intro q2 (And.intro k4 (Exists.intro 0 (Exists.intro 0 (Exists.intro 4 (Exists.intro n1 (Exists.intro n2 (And.intro rfl (And.intro rfl (And.intro rfl (And.intro (Nat.le_of_ble_eq_true rfl) (And.intro (Nat.le_of_ble_eq_true rfl) (And.intro (Nat.le_of_ble_eq_true rfl) (And.intro k5 (And.intro k6 (And.intro B1 (And.intro B2 (And.intro (Nat.le_of_ble_eq_true rfl) (And.intro k1 (Exists.intro q3 (And.intro k7 (And.intro k2 (Exists.intro q4 (And.intro k8 (Exists.intro 0 (Exists.intro 0 (Exists.intro 3 (Exists.intro n3 (Exists.intro n4 (And.intro rfl (And.intro rfl (And.intro rfl (And.intro (Nat.le_of_ble_eq_true rfl) (And.intro (Nat.le_of_ble_eq_true rfl) (And.intro (Nat.le_of_ble_eq_true rfl) (And.intro k9 (And.intro k10 (And.intro B3 (And.intro B4 (And.intro (Nat.le_of_ble_eq_true rfl) (And.intro k1 (Exists.intro q5 (And.intro k11 (And.intro k2 (Exists.intro q6 (And.intro k12 (Exists.intro 0 (Exists.intro 0 (Exists.intro 3 (Exists.intro n5 (Exists.intro n6 (And.intro rfl (And.intro rfl (And.intro rfl (And.intro (Nat.le_of_ble_eq_true rfl) (And.intro (Nat.le_of_ble_eq_true rfl) (And.intro (Nat.le_of_ble_eq_true rfl) (And.intro k13 (And.intro k14 (And.intro B5 (And.intro B6 (And.intro (Nat.le_of_ble_eq_true rfl) (And.intro k1 (Exists.intro q7 (And.intro k15 (And.intro k2 (Exists.intro q8 (And.intro k16 (Exists.intro 0 (Exists.intro 0 (Exists.intro 12 (Exists.intro n7 (Exists.intro n8 (And.intro rfl (And.intro rfl (And.intro rfl (And.intro (Nat.le_of_ble_eq_true rfl) (And.intro (Nat.le_of_ble_eq_true rfl) (And.intro (Nat.le_of_ble_eq_true rfl) (And.intro k17 (And.intro k18 (And.intro B7 (And.intro B8 (And.intro (Nat.le_of_ble_eq_true rfl) (And.intro k1 (Exists.intro q9 (And.intro k19 (And.intro k2 (Exists.intro q10 (And.intro k20 (Exists.intro 0 (Exists.intro 0 (Exists.intro 12 (Exists.intro n9 (Exists.intro n10 (And.intro rfl (And.intro rfl (And.intro rfl (And.intro (Nat.le_of_ble_eq_true rfl) (And.intro (Nat.le_of_ble_eq_true rfl) (And.intro (Nat.le_of_ble_eq_true rfl) (And.intro k21 (And.intro k22 (And.intro B9 (And.intro B10 (And.intro (Nat.le_of_ble_eq_true rfl) (And.intro k1 (Exists.intro q11 (And.intro k23 (And.intro k2 (Exists.intro q12 (And.intro k24 (Exists.intro 0 (Exists.intro 0 (Exists.intro 24 (Exists.intro n11 (Exists.intro n12 (And.intro rfl (And.intro rfl (And.intro rfl (And.intro (Nat.le_of_ble_eq_true rfl) (And.intro (Nat.le_of_ble_eq_true rfl) (And.intro (Nat.le_of_ble_eq_true rfl) (And.intro k25 (And.intro k26 (And.intro B11 (And.intro B12 (And.intro (Nat.le_of_ble_eq_true rfl) H13)))))))))))))))))))))))))))))))))))))))))))))))))))))))))))))))))))))))))))))))))))))))))))))))))))))))))))))))))))))))))))))))))))))))
/-- SnapshotRings$State.copyFrom from 119 -/
theorem r_S_copyFrom_119 {v0 : Nat} {v1 : Nat} {q1 : Nat} {q2 : Nat} {n1 : Nat} {n2 : Nat} {q3 : Nat} {q4 : Nat} {n3 : Nat} {n4 : Nat} {q5 : Nat} {q6 : Nat} {n5 : Nat} {n6 : Nat} {q7 : Nat} {q8 : Nat} {n7 : Nat} {n8 : Nat} {h : sn_H} {Q : Option Value → sn_H → Prop}
    (k1 : hK h v1 = (0, 1, 14))
    (k2 : hR h v1 10 = some q1)
    (k3 : hK h v0 = (0, 1, 14))
    (k4 : hR h v0 10 = some q2)
    (k5 : hK h q1 = (1, 0, n1))
    (k6 : hK h q2 = (1, 0, n2))
    (k7 : hR h v1 11 = some q3)
    (k8 : hR h v0 11 = some q4)
    (k9 : hK h q3 = (1, 0, n3))
    (k10 : hK h q4 = (1, 0, n4))
    (k11 : hR h v1 12 = some q5)
    (k12 : hR h v0 12 = some q6)
    (k13 : hK h q5 = (1, 0, n5))
    (k14 : hK h q6 = (1, 0, n6))
    (k15 : hR h v1 13 = some q7)
    (k16 : hR h v0 13 = some q8)
    (k17 : hK h q7 = (1, 0, n7))
    (k18 : hK h q8 = (1, 0, n8))
    (B1 : 0 + 24 ≤ n1)
    (B2 : 0 + 24 ≤ n2)
    (B3 : 0 + 24 ≤ n3)
    (B4 : 0 + 24 ≤ n4)
    (B5 : 0 + 288 ≤ n5)
    (B6 : 0 + 288 ≤ n6)
    (B7 : 0 + 96 ≤ n7)
    (B8 : 0 + 96 ≤ n8)
    (H9 : Q none (cpG (cpG (cpG (cpG h q1 0 q2 0 24) q3 0 q4 0 24) q5 0 q6 0 288) q7 0 q8 0 96)) :
    wpE 7 119 [some (.ref v0), some (.ref v1)] [] h (0, 0) Q :=
  vc_s (ct := fun pc => Nat.beq pc 24 || Nat.beq pc 119) 1000 false (And.intro k1 (Exists.intro q1 (And.intro k2 (And.intro k3 (Exists.intro q2 (And.intro k4 (Exists.intro 0 (Exists.intro 0 (Exists.intro 24 (Exists.intro n1 (Exists.intro n2 (And.intro rfl (And.intro rfl (And.intro rfl (And.intro (Nat.le_of_ble_eq_true rfl) (And.intro (Nat.le_of_ble_eq_true rfl) (And.intro (Nat.le_of_ble_eq_true rfl) (And.intro k5 (And.intro k6 (And.intro B1 (And.intro B2 (And.intro (Nat.le_of_ble_eq_true rfl) (And.intro k1 (Exists.intro q3 (And.intro k7 (And.intro k3 (Exists.intro q4 (And.intro k8 (Exists.intro 0 (Exists.intro 0 (Exists.intro 24 (Exists.intro n3 (Exists.intro n4 (And.intro rfl (And.intro rfl (And.intro rfl (And.intro (Nat.le_of_ble_eq_true rfl) (And.intro (Nat.le_of_ble_eq_true rfl) (And.intro (Nat.le_of_ble_eq_true rfl) (And.intro k9 (And.intro k10 (And.intro B3 (And.intro B4 (And.intro (Nat.le_of_ble_eq_true rfl) (And.intro k1 (Exists.intro q5 (And.intro k11 (And.intro k3 (Exists.intro q6 (And.intro k12 (Exists.intro 0 (Exists.intro 0 (Exists.intro 288 (Exists.intro n5 (Exists.intro n6 (And.intro rfl (And.intro rfl (And.intro rfl (And.intro (Nat.le_of_ble_eq_true rfl) (And.intro (Nat.le_of_ble_eq_true rfl) (And.intro (Nat.le_of_ble_eq_true rfl) (And.intro k13 (And.intro k14 (And.intro B5 (And.intro B6 (And.intro (Nat.le_of_ble_eq_true rfl) (And.intro k1 (Exists.intro q7 (And.intro k15 (And.intro k3 (Exists.intro q8 (And.intro k16 (Exists.intro 0 (Exists.intro 0 (Exists.intro 96 (Exists.intro n7 (Exists.intro n8 (And.intro rfl (And.intro rfl (And.intro rfl (And.intro (Nat.le_of_ble_eq_true rfl) (And.intro (Nat.le_of_ble_eq_true rfl) (And.intro (Nat.le_of_ble_eq_true rfl) (And.intro k17 (And.intro k18 (And.intro B7 (And.intro B8 (And.intro (Nat.le_of_ble_eq_true rfl) (And.intro rfl H9)))))))))))))))))))))))))))))))))))))))))))))))))))))))))))))))))))))))))))))))))))))))))
/-- SnapshotRings$History.push from 0 -/
theorem r_H_push_0 {v0 : Nat} {v1 : Nat} {q1 : Nat} {n1 : Nat} {q2 : Nat} {h : sn_H} {Q : Option Value → sn_H → Prop}
    (k1 : hK h v0 = (0, 2, 3))
    (k2 : hR h v0 0 = some q1)
    (k3 : hK h q1 = (4, 1, n1))
    (k4 : hR h q1 ((hG h v0 2).toNatClampNeg) = some q2)
    (k5 : hK h q2 = (0, 1, 14))
    (B1 : vp_in (hG h v0 2) n1)
    (H2 : wpE 7 0 [some (.ref q2), some (.ref v1)] [] h (0, 0) (fun r h => wpE 6 13 [some (.ref v0), none] (r.toList ++ []) h (0, 0) Q)) :
    wpE 6 0 [some (.ref v0), some (.ref v1)] [] h (0, 0) Q :=
  vc_s (ct := fun _ => false) 1000 false (And.intro k1 (Exists.intro q1 (And.intro k2 (And.intro k1 (Exists.intro 1 (Exists.intro n1 (Exists.intro q2 (And.intro k3 (And.intro B1 (And.intro k4 (And.intro k5 (And.intro (Nat.le_of_ble_eq_true rfl) (And.intro (Nat.le_of_ble_eq_true rfl) (And.intro (Nat.le_of_ble_eq_true rfl) (And.intro (Nat.le_of_ble_eq_true rfl) (wpE_m (fun _ _ HH => @wpE_w _ _ [some (.ref v0), none] _ _ _ _ _ (show LeL [some (.ref v0), none] [some (.ref v0), some (.ref v1)] from (And.intro rfl trivial)) HH) H2))))))))))))))))
/-- SnapshotRings$History.push from 13 -/
theorem r_H_push_13 {v0 : Nat} {h : sn_H} {Q : Option Value → sn_H → Prop}
    (k1 : hK h v0 = (0, 2, 3))
    (H1 : Q none (setG (setG h v0 2 (((hG h v0 2) + nI 1) - ((hG h v0 2) + nI 1) / nI 6 * nI 6)) v0 1 (if nI 6 < ((hG (setG h v0 2 (((hG h v0 2) + nI 1) - ((hG h v0 2) + nI 1) / nI 6 * nI 6)) v0 1) + nI 1) then nI 6 else ((hG (setG h v0 2 (((hG h v0 2) + nI 1) - ((hG h v0 2) + nI 1) / nI 6 * nI 6)) v0 1) + nI 1)))) :
    wpE 6 13 [some (.ref v0), none] [] h (0, 0) Q :=
  vc_s (ct := fun _ => false) 1000 false (And.intro k1 (And.intro (by decide) (And.intro k1 (And.intro rfl (And.intro k1 (And.intro (Nat.le_of_ble_eq_true rfl) (And.intro k1 (And.intro rfl (And.intro rfl H1)))))))))
/-- SnapshotRings.isConstraint from 0 -/
theorem r_X_isConstraint_0 {v0 : Int32} {h : sn_H} {Q : Option Value → sn_H → Prop}
    (H1 : v0 < 0 → Q (some (.int (nI 0))) h)
    (H2 : ¬ v0 < 0 → nI 3 ≤ v0 → Q (some (.int (nI 0))) h)
    (H3 : ¬ v0 < 0 → ¬ nI 3 ≤ v0 → Q (some (.int (nI 1))) h) :
    wpE 9 0 [some (.int v0)] [] h (0, 0) Q :=
  vc_s (ct := fun _ => false) 1000 false (And.intro (fun c1 => (And.intro rfl (H1 c1))) (fun c2 => (And.intro (fun c3 => (And.intro rfl (H2 c2 c3))) (fun c4 => (And.intro rfl (H3 c2 c4))))))
/-- SnapshotRings.isSlot from 0 -/
theorem r_X_isSlot_0 {v0 : Int32} {h : sn_H} {Q : Option Value → sn_H → Prop}
    (H1 : v0 < 0 → Q (some (.int (nI 0))) h)
    (H2 : ¬ v0 < 0 → nI 8 ≤ v0 → Q (some (.int (nI 0))) h)
    (H3 : ¬ v0 < 0 → ¬ nI 8 ≤ v0 → Q (some (.int (nI 1))) h) :
    wpE 12 0 [some (.int v0)] [] h (0, 0) Q :=
  vc_s (ct := fun _ => false) 1000 false (And.intro (fun c1 => (And.intro rfl (H1 c1))) (fun c2 => (And.intro (fun c3 => (And.intro rfl (H2 c2 c3))) (fun c4 => (And.intro rfl (H3 c2 c4))))))
/-- SnapshotRings.hasBit from 0 -/
theorem r_X_hasBit_0 {v0 : Int32} {v1 : Int32} {h : sn_H} {Q : Option Value → sn_H → Prop}
    (H1 : ¬ ((v0 >>> (v1 &&& 31)) &&& nI 1) = nI 1 → Q (some (.int (nI 0))) h)
    (H2 : ((v0 >>> (v1 &&& 31)) &&& nI 1) = nI 1 → Q (some (.int (nI 1))) h) :
    wpE 14 0 [some (.int v0), some (.int v1)] [] h (0, 0) Q :=
  vc_s (ct := fun _ => false) 1000 false (And.intro (fun c1 => (And.intro rfl (H1 c1))) (fun c2 => (And.intro rfl (H2 c2))))
/-- SnapshotRings$State.isOpen from 0 -/
theorem r_S_isOpen_0 {v0 : Nat} {v1 : Int32} {h : sn_H} {Q : Option Value → sn_H → Prop}
    (k1 : hK h v0 = (0, 1, 14))
    (H1 : ¬ (((hG h v0 3) >>> (v1 &&& 31)) &&& nI 1) = nI 1 → Q (some (.int (nI 0))) h)
    (H2 : (((hG h v0 3) >>> (v1 &&& 31)) &&& nI 1) = nI 1 → Q (some (.int (nI 1))) h) :
    wpE 13 0 [some (.ref v0), some (.int v1)] [] h (0, 0) Q :=
  vc_s (ct := fun _ => false) 1000 false (And.intro k1 (And.intro (Nat.le_of_ble_eq_true rfl) (And.intro (Nat.le_of_ble_eq_true rfl) (And.intro (Nat.le_of_ble_eq_true rfl) (And.intro (Nat.le_of_ble_eq_true rfl) (r_X_hasBit_0 (v0 := (hG h v0 3)) (v1 := v1) (h := h) (fun c1 => (vc_s (ct := fun _ => false) 1000 false (And.intro rfl (H1 c1)))) (fun c2 => (vc_s (ct := fun _ => false) 1000 false (And.intro rfl (H2 c2))))))))))
/-- SnapshotRings$State.start from 0 -/
theorem r_S_start_0 {v0 : Nat} {v1 : Int32} {q1 : Nat} {n1 : Nat} {h : sn_H} {Q : Option Value → sn_H → Prop}
    (k1 : hK h v0 = (0, 1, 14))
    (k2 : hR h v0 9 = some q1)
    (k3 : hK h q1 = (1, 0, n1))
    (B1 : vp_in v1 n1)
    (H2 : wpE 15 22 [some (.ref v0), some (.int v1)] [] (setG (setG h v0 3 ((hG h v0 3) ||| (nI 1 <<< (v1 &&& 31)))) q1 v1.toNatClampNeg (hG (setG h v0 3 ((hG h v0 3) ||| (nI 1 <<< (v1 &&& 31)))) v0 1)) (0, 0) Q) :
    wpE 15 0 [some (.ref v0), some (.int v1)] [] h (0, 0) Q :=
  vc_s (ct := fun pc => Nat.beq pc 22) 1000 false (And.intro rfl (And.intro k1 (And.intro k1 (And.intro rfl (And.intro k1 (Exists.intro q1 (And.intro k2 (And.intro k1 (Exists.intro n1 (And.intro k3 (And.intro B1 H2)))))))))))
/-- SnapshotRings$State.start from 22 -/
theorem r_S_start_22 {v0 : Nat} {v1 : Int32} {q1 : Nat} {n1 : Nat} {q2 : Nat} {n2 : Nat} {q3 : Nat} {q4 : Nat} {n3 : Nat} {n4 : Nat} {n5 : Nat} {q5 : Nat} {q6 : Nat} {n6 : Nat} {n7 : Nat} {n8 : Nat} {h : sn_H} {Q : Option Value → sn_H → Prop}
    (k1 : hK h v0 = (0, 1, 14))
    (k2 : hR h v0 10 = some q1)
    (k3 : hK h q1 = (1, 0, n1))
    (k4 : hR h v0 11 = some q2)
    (k5 : hK h q2 = (1, 0, n2))
    (k6 : hR h v0 8 = some q3)
    (k7 : hR h v0 12 = some q4)
    (k8 : hK h q3 = (1, 0, n3))
    (k9 : hK h q4 = (1, 0, n4))
    (k10 : hR h v0 7 = some q5)
    (k11 : hR h v0 13 = some q6)
    (k12 : hK h q5 = (1, 0, n6))
    (k13 : hK h q6 = (1, 0, n7))
    (B1 : vp_in v1 n1)
    (B2 : vp_in v1 n2)
    (B3 : (v1 * nI 12) = nI n5)
    (B4 : n5 < 65536)
    (B5 : 0 + 12 ≤ n3)
    (B6 : n5 + 12 ≤ n4)
    (B7 : (v1 * nI 12) = nI n8)
    (B8 : n8 < 65536)
    (B9 : 0 + 12 ≤ n6)
    (B10 : n8 + 12 ≤ n7)
    (H11 : Q (some (.int (hG (cpG (cpG (setG (setG h q1 v1.toNatClampNeg (nI 0)) q2 v1.toNatClampNeg (nI 0)) q3 0 q4 n5 12) q5 0 q6 n8 12) v0 1))) (cpG (cpG (setG (setG h q1 v1.toNatClampNeg (nI 0)) q2 v1.toNatClampNeg (nI 0)) q3 0 q4 n5 12) q5 0 q6 n8 12)) :
    wpE 15 22 [some (.ref v0), some (.int v1)] [] h (0, 0) Q :=
  vc_s (ct := fun pc => Nat.beq pc 22) 1000 false (And.intro k1 (Exists.intro q1 (And.intro k2 (Exists.intro n1 (And.intro k3 (And.intro B1 (And.intro k1 (Exists.intro q2 (And.intro k4 (Exists.intro n2 (And.intro k5 (And.intro B2 (And.intro k1 (Exists.intro q3 (And.intro k6 (And.intro k1 (Exists.intro q4 (And.intro k7 (Exists.intro 0 (Exists.intro n5 (Exists.intro 12 (Exists.intro n3 (Exists.intro n4 (And.intro rfl (And.intro B3 (And.intro rfl (And.intro (Nat.le_of_ble_eq_true rfl) (And.intro B4 (And.intro (Nat.le_of_ble_eq_true rfl) (And.intro k8 (And.intro k9 (And.intro B5 (And.intro B6 (And.intro (Nat.le_of_ble_eq_true rfl) (And.intro k1 (Exists.intro q5 (And.intro k10 (And.intro k1 (Exists.intro q6 (And.intro k11 (Exists.intro 0 (Exists.intro n8 (Exists.intro 12 (Exists.intro n6 (Exists.intro n7 (And.intro rfl (And.intro B7 (And.intro rfl (And.intro (Nat.le_of_ble_eq_true rfl) (And.intro B8 (And.intro (Nat.le_of_ble_eq_true rfl) (And.intro k12 (And.intro k13 (And.intro B9 (And.intro B10 (And.intro (Nat.le_of_ble_eq_true rfl) (And.intro k1 H11)))))))))))))))))))))))))))))))))))))))))))))))))))))))))
/-- SnapshotRings.isKey from 0 -/
theorem r_X_isKey_0 {v0 : Int32} {h : sn_H} {Q : Option Value → sn_H → Prop}
    (H1 : v0 < 0 → Q (some (.int (nI 0))) h)
    (H2 : ¬ v0 < 0 → nI 12 ≤ v0 → Q (some (.int (nI 0))) h)
    (H3 : ¬ v0 < 0 → ¬ nI 12 ≤ v0 → Q (some (.int (nI 1))) h) :
    wpE 18 0 [some (.int v0)] [] h (0, 0) Q :=
  vc_s (ct := fun _ => false) 1000 false (And.intro (fun c1 => (And.intro rfl (H1 c1))) (fun c2 => (And.intro (fun c3 => (And.intro rfl (H2 c2 c3))) (fun c4 => (And.intro rfl (H3 c2 c4))))))
/-- SnapshotRings.errorOfSlot from 0 -/
theorem r_X_errorOfSlot_0 {v0 : Nat} {v1 : Int32} {q1 : Nat} {h : sn_H} {Q : Option Value → sn_H → Prop}
    (k1 : hK h v0 = (0, 0, 5))
    (k2 : hR h v0 0 = some q1)
    (k3 : hK h q1 = (0, 1, 14))
    (H1 : v1 < 0 → Q (some (.int (-(nI 20001)))) h)
    (H2 : ¬ v1 < 0 → nI 8 ≤ v1 → Q (some (.int (-(nI 20001)))) h)
    (H3 : ¬ v1 < 0 → ¬ nI 8 ≤ v1 → ¬ (((hG h q1 3) >>> (v1 &&& 31)) &&& nI 1) = nI 1 → Q (some (.int (-(nI 20001)))) h)
    (H4 : ¬ v1 < 0 → ¬ nI 8 ≤ v1 → (((hG h q1 3) >>> (v1 &&& 31)) &&& nI 1) = nI 1 → Q (some (.int (nI 0))) h) :
    wpE 19 0 [some (.ref v0), some (.int v1)] [] h (0, 0) Q :=
  vc_s (ct := fun _ => false) 1000 false (And.intro (Nat.le_of_ble_eq_true rfl) (And.intro (Nat.le_of_ble_eq_true rfl) (And.intro (Nat.le_of_ble_eq_true rfl) (And.intro (Nat.le_of_ble_eq_true rfl) (r_X_isSlot_0 (v0 := v1) (h := h) (fun c1 => (vc_s (ct := fun _ => false) 1000 false (And.intro (fun c2 => (H1 c1)) (fun c2 => absurd c2 (by decide))))) (fun c3 c4 => (vc_s (ct := fun _ => false) 1000 false (And.intro (fun c5 => (H2 c3 c4)) (fun c5 => absurd c5 (by decide))))) (fun c6 c7 => (vc_s (ct := fun _ => false) 1000 false (And.intro (fun c8 => absurd c8 (by decide)) (fun c8 => (And.intro k1 (Exists.intro q1 (And.intro k2 (And.intro k3 (And.intro (Nat.le_of_ble_eq_true rfl) (And.intro (Nat.le_of_ble_eq_true rfl) (And.intro (Nat.le_of_ble_eq_true rfl) (And.intro (Nat.le_of_ble_eq_true rfl) (r_S_isOpen_0 (v0 := q1) (v1 := v1) (h := h) k3 (fun c9 => (vc_s (ct := fun _ => false) 1000 false (And.intro (fun c10 => (H3 c6 c7 c9)) (fun c10 => absurd c10 (by decide))))) (fun c11 => (vc_s (ct := fun _ => false) 1000 false (And.intro (fun c12 => absurd c12 (by decide)) (fun c12 => (H4 c6 c7 c11)))))))))))))))))))))))
/-- SnapshotRings$State.readKey from 0 -/
theorem r_S_readKey_0 {v0 : Nat} {v1 : Int32} {v2 : Int32} {q1 : Nat} {n1 : Nat} {q2 : Nat} {n2 : Nat} {q3 : Nat} {n3 : Nat} {h : sn_H} {Q : Option Value → sn_H → Prop}
    (k1 : hK h v0 = (0, 1, 14))
    (k2 : hR h v0 11 = some q1)
    (k3 : hK h q1 = (1, 0, n1))
    (k4 : hR h v0 10 = some q2)
    (k5 : hK h q2 = (1, 0, n2))
    (k6 : hR h v0 13 = some q3)
    (k7 : hK h q3 = (1, 0, n3))
    (B1 : vp_in v1 n1)
    (B2 : ¬ (((hG h q1 v1.toNatClampNeg) >>> (v2 &&& 31)) &&& nI 1) = nI 1 → vp_in v1 n2)
    (B3 : ¬ (((hG h q1 v1.toNatClampNeg) >>> (v2 &&& 31)) &&& nI 1) = nI 1 → vp_in ((v1 * nI 12) + v2) n3)
    (H4 : ¬ (((hG h q1 v1.toNatClampNeg) >>> (v2 &&& 31)) &&& nI 1) = nI 1 → Q (some (.int (hG (setG h q2 v1.toNatClampNeg ((hG h q2 v1.toNatClampNeg) ||| (nI 1 <<< (v2 &&& 31)))) q3 ((v1 * nI 12) + v2).toNatClampNeg))) (setG h q2 v1.toNatClampNeg ((hG h q2 v1.toNatClampNeg) ||| (nI 1 <<< (v2 &&& 31)))))
    (B5 : (((hG h q1 v1.toNatClampNeg) >>> (v2 &&& 31)) &&& nI 1) = nI 1 → vp_in ((v1 * nI 12) + v2) n3)
    (H6 : (((hG h q1 v1.toNatClampNeg) >>> (v2 &&& 31)) &&& nI 1) = nI 1 → Q (some (.int (hG h q3 ((v1 * nI 12) + v2).toNatClampNeg))) h) :
    wpE 20 0 [some (.ref v0), some (.int v1), some (.int v2)] [] h (0, 0) Q :=
  vc_s (ct := fun _ => false) 1000 false (And.intro k1 (Exists.intro q1 (And.intro k2 (Exists.intro 0 (Exists.intro n1 (And.intro k3 (And.intro B1 (And.intro (Nat.le_of_ble_eq_true rfl) (And.intro (Nat.le_of_ble_eq_true rfl) (And.intro (Nat.le_of_ble_eq_true rfl) (And.intro (Nat.le_of_ble_eq_true rfl) (r_X_hasBit_0 (v0 := (hG h q1 v1.toNatClampNeg)) (v1 := v2) (h := h) (fun c1 => (vc_s (ct := fun _ => false) 1000 false (And.intro (fun c2 => absurd c2 (by decide)) (fun c2 => (And.intro k1 (Exists.intro q2 (And.intro k4 (And.intro rfl (And.intro rfl (Exists.intro 0 (Exists.intro n2 (And.intro k5 (And.intro (B2 c1) (Exists.intro n2 (And.intro k5 (And.intro (B2 c1) (And.intro k1 (Exists.intro q3 (And.intro k6 (Exists.intro 0 (Exists.intro n3 (And.intro k7 (And.intro (B3 c1) (H4 c1)))))))))))))))))))))))) (fun c3 => (vc_s (ct := fun _ => false) 1000 false (And.intro (fun c4 => (And.intro k1 (Exists.intro q3 (And.intro k6 (Exists.intro 0 (Exists.intro n3 (And.intro k7 (And.intro (B5 c3) (H6 c3))))))))) (fun c4 => absurd c4 (by decide)))))))))))))))))
/-- java/lang/Integer.bitCount from 0 -/
theorem r_I_bitCount_0 {v0 : Int32} {h : sn_H} {Q : Option Value → sn_H → Prop}
    (H1 : Q (some (.int ((((((((v0 - ((v0.toUInt32 >>> ((nI 1).toUInt32 &&& Int32.toUInt32 31)).toInt32 &&& nI 1431655765)) &&& nI 858993459) + (((v0 - ((v0.toUInt32 >>> ((nI 1).toUInt32 &&& Int32.toUInt32 31)).toInt32 &&& nI 1431655765)).toUInt32 >>> ((nI 2).toUInt32 &&& Int32.toUInt32 31)).toInt32 &&& nI 858993459)) + ((((v0 - ((v0.toUInt32 >>> ((nI 1).toUInt32 &&& Int32.toUInt32 31)).toInt32 &&& nI 1431655765)) &&& nI 858993459) + (((v0 - ((v0.toUInt32 >>> ((nI 1).toUInt32 &&& Int32.toUInt32 31)).toInt32 &&& nI 1431655765)).toUInt32 >>> ((nI 2).toUInt32 &&& Int32.toUInt32 31)).toInt32 &&& nI 858993459)).toUInt32 >>> ((nI 4).toUInt32 &&& Int32.toUInt32 31)).toInt32) &&& nI 252645135) + ((((((v0 - ((v0.toUInt32 >>> ((nI 1).toUInt32 &&& Int32.toUInt32 31)).toInt32 &&& nI 1431655765)) &&& nI 858993459) + (((v0 - ((v0.toUInt32 >>> ((nI 1).toUInt32 &&& Int32.toUInt32 31)).toInt32 &&& nI 1431655765)).toUInt32 >>> ((nI 2).toUInt32 &&& Int32.toUInt32 31)).toInt32 &&& nI 858993459)) + ((((v0 - ((v0.toUInt32 >>> ((nI 1).toUInt32 &&& Int32.toUInt32 31)).toInt32 &&& nI 1431655765)) &&& nI 858993459) + (((v0 - ((v0.toUInt32 >>> ((nI 1).toUInt32 &&& Int32.toUInt32 31)).toInt32 &&& nI 1431655765)).toUInt32 >>> ((nI 2).toUInt32 &&& Int32.toUInt32 31)).toInt32 &&& nI 858993459)).toUInt32 >>> ((nI 4).toUInt32 &&& Int32.toUInt32 31)).toInt32) &&& nI 252645135).toUInt32 >>> ((nI 8).toUInt32 &&& Int32.toUInt32 31)).toInt32) + (((((((v0 - ((v0.toUInt32 >>> ((nI 1).toUInt32 &&& Int32.toUInt32 31)).toInt32 &&& nI 1431655765)) &&& nI 858993459) + (((v0 - ((v0.toUInt32 >>> ((nI 1).toUInt32 &&& Int32.toUInt32 31)).toInt32 &&& nI 1431655765)).toUInt32 >>> ((nI 2).toUInt32 &&& Int32.toUInt32 31)).toInt32 &&& nI 858993459)) + ((((v0 - ((v0.toUInt32 >>> ((nI 1).toUInt32 &&& Int32.toUInt32 31)).toInt32 &&& nI 1431655765)) &&& nI 858993459) + (((v0 - ((v0.toUInt32 >>> ((nI 1).toUInt32 &&& Int32.toUInt32 31)).toInt32 &&& nI 1431655765)).toUInt32 >>> ((nI 2).toUInt32 &&& Int32.toUInt32 31)).toInt32 &&& nI 858993459)).toUInt32 >>> ((nI 4).toUInt32 &&& Int32.toUInt32 31)).toInt32) &&& nI 252645135) + ((((((v0 - ((v0.toUInt32 >>> ((nI 1).toUInt32 &&& Int32.toUInt32 31)).toInt32 &&& nI 1431655765)) &&& nI 858993459) + (((v0 - ((v0.toUInt32 >>> ((nI 1).toUInt32 &&& Int32.toUInt32 31)).toInt32 &&& nI 1431655765)).toUInt32 >>> ((nI 2).toUInt32 &&& Int32.toUInt32 31)).toInt32 &&& nI 858993459)) + ((((v0 - ((v0.toUInt32 >>> ((nI 1).toUInt32 &&& Int32.toUInt32 31)).toInt32 &&& nI 1431655765)) &&& nI 858993459) + (((v0 - ((v0.toUInt32 >>> ((nI 1).toUInt32 &&& Int32.toUInt32 31)).toInt32 &&& nI 1431655765)).toUInt32 >>> ((nI 2).toUInt32 &&& Int32.toUInt32 31)).toInt32 &&& nI 858993459)).toUInt32 >>> ((nI 4).toUInt32 &&& Int32.toUInt32 31)).toInt32) &&& nI 252645135).toUInt32 >>> ((nI 8).toUInt32 &&& Int32.toUInt32 31)).toInt32).toUInt32 >>> ((nI 16).toUInt32 &&& Int32.toUInt32 31)).toInt32) &&& nI 63))) h) :
    wpE 24 0 [some (.int v0)] [] h (0, 0) Q :=
  vc_s (ct := fun _ => false) 1000 false (And.intro (Nat.le_of_ble_eq_true rfl) (And.intro (Nat.le_of_ble_eq_true rfl) (And.intro (Nat.le_of_ble_eq_true rfl) (And.intro (Nat.le_of_ble_eq_true rfl) (And.intro (Nat.le_of_ble_eq_true rfl) H1)))))
/-- SnapshotRings$State.writeKey from 0 -/
theorem r_S_writeKey_0 {v0 : Nat} {v1 : Int32} {v2 : Int32} {v3 : Int32} {q1 : Nat} {n1 : Nat} {q2 : Nat} {n2 : Nat} {h : sn_H} {Q : Option Value → sn_H → Prop}
    (k1 : hK h v0 = (0, 1, 14))
    (k2 : hR h v0 11 = some q1)
    (k3 : hK h q1 = (1, 0, n1))
    (k4 : hR h v0 13 = some q2)
    (k5 : hK h q2 = (1, 0, n2))
    (B1 : vp_in v1 n1)
    (B2 : vp_in ((v1 * nI 12) + v2) n2)
    (H3 : wpE 23 24 [some (.ref v0), some (.int v1), none, none] [] (setG (setG h q1 v1.toNatClampNeg ((hG h q1 v1.toNatClampNeg) ||| (nI 1 <<< (v2 &&& 31)))) q2 ((v1 * nI 12) + v2).toNatClampNeg v3) (0, 0) Q) :
    wpE 23 0 [some (.ref v0), some (.int v1), some (.int v2), some (.int v3)] [] h (0, 0) Q :=
  vc_s (ct := fun pc => Nat.beq pc 24) 1000 false (And.intro k1 (Exists.intro q1 (And.intro k2 (And.intro rfl (And.intro rfl (Exists.intro 0 (Exists.intro n1 (And.intro k3 (And.intro B1 (Exists.intro n1 (And.intro k3 (And.intro B1 (And.intro k1 (Exists.intro q2 (And.intro k4 (Exists.intro n2 (And.intro k5 (And.intro B2 (@wpE_w _ _ [some (.ref v0), some (.int v1), none, none] _ _ _ _ _ (show LeL [some (.ref v0), some (.int v1), none, none] [some (.ref v0), some (.int v1), some (.int v2), some (.int v3)] from (And.intro rfl (And.intro rfl trivial))) H3)))))))))))))))))))
/-- SnapshotRings$State.writeKey from 24 -/
theorem r_S_writeKey_24 {v0 : Nat} {v1 : Int32} {q1 : Nat} {n1 : Nat} {h : sn_H} {Q : Option Value → sn_H → Prop}
    (k1 : hK h v0 = (0, 1, 14))
    (k2 : hR h v0 11 = some q1)
    (k3 : hK h q1 = (1, 0, n1))
    (B1 : vp_in v1 n1)
    (H2 : wpE 24 0 [some (.int (hG h q1 v1.toNatClampNeg))] [] h (0, 0) (fun r h => wpE 23 33 [none, none, none, none] (r.toList ++ []) h (0, 0) Q)) :
    wpE 23 24 [some (.ref v0), some (.int v1), none, none] [] h (0, 0) Q :=
  vc_s (ct := fun pc => Nat.beq pc 24) 1000 false (And.intro k1 (Exists.intro q1 (And.intro k2 (Exists.intro 0 (Exists.intro n1 (And.intro k3 (And.intro B1 (And.intro (Nat.le_of_ble_eq_true rfl) (And.intro (Nat.le_of_ble_eq_true rfl) (And.intro (Nat.le_of_ble_eq_true rfl) (And.intro (Nat.le_of_ble_eq_true rfl) (wpE_m (fun _ _ HH => @wpE_w _ _ [none, none, none, none] _ _ _ _ _ (show LeL [none, none, none, none] [some (.ref v0), some (.int v1), none, none] from trivial) HH) H2))))))))))))
/-- SnapshotRings$State.writeKey from 33 -/
theorem r_S_writeKey_33 {s0 : Int32} {h : sn_H} {Q : Option Value → sn_H → Prop}
    (H1 : Q (some (.int s0)) h) :
    wpE 23 33 [none, none, none, none] [.int s0] h (0, 0) Q :=
  vc_s (ct := fun pc => Nat.beq pc 24) 1000 false H1
/-- SnapshotRings$State.overwritesNewer from 0 -/
theorem r_S_overwritesNewer_0 {v0 : Nat} {v1 : Int32} {h : sn_H} {Q : Option Value → sn_H → Prop}
    (H1 : wpE 28 2 [some (.ref v0), some (.int v1), some (.int (nI 0))] [] h (0, 0) Q) :
    wpE 28 0 [some (.ref v0), some (.int v1), none] [] h (0, 0) Q :=
  vc_s (ct := fun pc => Nat.beq pc 2) 1000 false (And.intro (Nat.le_of_ble_eq_true rfl) H1)
/-- SnapshotRings$State.overwritesNewer from 2 -/
theorem r_S_overwritesNewer_2 {v0 : Nat} {v1 : Int32} {v2 : Int32} {q1 : Nat} {n1 : Nat} {q2 : Nat} {n2 : Nat} {q3 : Nat} {n3 : Nat} {h : sn_H} {Q : Option Value → sn_H → Prop}
    (k1 : hK h v0 = (0, 1, 14))
    (k2 : hR h v0 11 = some q1)
    (k3 : hK h q1 = (1, 0, n1))
    (k4 : hR h v0 8 = some q2)
    (k5 : hK h q2 = (1, 0, n2))
    (k6 : hR h v0 9 = some q3)
    (k7 : hK h q3 = (1, 0, n3))
    (H1 : nI 12 ≤ v2 → Q (some (.int (nI 0))) h)
    (B2 : ¬ nI 12 ≤ v2 → vp_in v1 n1)
    (H3 : ¬ nI 12 ≤ v2 → ¬ (((hG h q1 v1.toNatClampNeg) >>> (v2 &&& 31)) &&& nI 1) = nI 1 → wpE 28 2 [some (.ref v0), some (.int v1), some (.int (v2 + nI 1))] [] h (0, 0) Q)
    (B4 : ¬ nI 12 ≤ v2 → (((hG h q1 v1.toNatClampNeg) >>> (v2 &&& 31)) &&& nI 1) = nI 1 → vp_in v2 n2)
    (B5 : ¬ nI 12 ≤ v2 → (((hG h q1 v1.toNatClampNeg) >>> (v2 &&& 31)) &&& nI 1) = nI 1 → vp_in v1 n3)
    (H6 : ¬ nI 12 ≤ v2 → (((hG h q1 v1.toNatClampNeg) >>> (v2 &&& 31)) &&& nI 1) = nI 1 → (hG h q2 v2.toNatClampNeg) ≤ (hG h q3 v1.toNatClampNeg) → wpE 28 2 [some (.ref v0), some (.int v1), some (.int (v2 + nI 1))] [] h (0, 0) Q)
    (H7 : ¬ nI 12 ≤ v2 → (((hG h q1 v1.toNatClampNeg) >>> (v2 &&& 31)) &&& nI 1) = nI 1 → ¬ (hG h q2 v2.toNatClampNeg) ≤ (hG h q3 v1.toNatClampNeg) → Q (some (.int (nI 1))) h) :
    wpE 28 2 [some (.ref v0), some (.int v1), some (.int v2)] [] h (0, 0) Q :=
  vc_s (ct := fun pc => Nat.beq pc 2) 1000 false (And.intro (fun c1 => (And.intro rfl (H1 c1))) (fun c2 => (And.intro k1 (Exists.intro q1 (And.intro k2 (Exists.intro 0 (Exists.intro n1 (And.intro k3 (And.intro (B2 c2) (And.intro (Nat.le_of_ble_eq_true rfl) (And.intro (Nat.le_of_ble_eq_true rfl) (And.intro (Nat.le_of_ble_eq_true rfl) (And.intro (Nat.le_of_ble_eq_true rfl) (r_X_hasBit_0 (v0 := (hG h q1 v1.toNatClampNeg)) (v1 := v2) (h := h) (fun c3 => (vc_s (ct := fun pc => Nat.beq pc 2) 1000 false (And.intro (fun c4 => (And.intro (Nat.le_of_ble_eq_true rfl) (H3 c2 c3))) (fun c4 => absurd c4 (by decide))))) (fun c5 => (vc_s (ct := fun pc => Nat.beq pc 2) 1000 false (And.intro (fun c6 => absurd c6 (by decide)) (fun c6 => (And.intro k1 (Exists.intro q2 (And.intro k4 (Exists.intro 0 (Exists.intro n2 (And.intro k5 (And.intro (B4 c2 c5) (And.intro k1 (Exists.intro q3 (And.intro k6 (Exists.intro 0 (Exists.intro n3 (And.intro k7 (And.intro (B5 c2 c5) (And.intro (fun c7 => (And.intro (Nat.le_of_ble_eq_true rfl) (H6 c2 c5 c7))) (fun c8 => (And.intro rfl (H7 c2 c5 c8))))))))))))))))))))))))))))))))))))
/-- SnapshotRings$State.keptCommits from 0 -/
theorem r_S_keptCommits_0 {v0 : Nat} {h : sn_H} {Q : Option Value → sn_H → Prop}
    (k1 : hK h v0 = (0, 1, 14))
    (H1 : Q (some (.int (if nI 16 < (hG h v0 1) then nI 16 else (hG h v0 1)))) h) :
    wpE 30 0 [some (.ref v0)] [] h (0, 0) Q :=
  vc_s (ct := fun _ => false) 1000 false (And.intro k1 (And.intro (Nat.le_of_ble_eq_true rfl) H1))
/-- SnapshotRings$State.rowOfCommit from 0 -/
theorem r_S_rowOfCommit_0 {v0 : Nat} {v1 : Int32} {h : sn_H} {Q : Option Value → sn_H → Prop}
    (H1 : Q (some (.int (nI 8 + ((v1 - nI 1) &&& nI 15)))) h) :
    wpE 31 0 [some (.ref v0), some (.int v1)] [] h (0, 0) Q :=
  vc_s (ct := fun _ => false) 1000 false H1
/-- SnapshotRings$Graph.setNode from 0 -/
theorem r_G_setNode_0 {v0 : Nat} {v1 : Int32} {v2 : Int32} {v3 : Int32} {q1 : Nat} {n1 : Nat} {q2 : Nat} {n2 : Nat} {q3 : Nat} {n3 : Nat} {q4 : Nat} {n4 : Nat} {h : sn_H} {Q : Option Value → sn_H → Prop}
    (k1 : hK h v0 = (0, 3, 10))
    (k2 : hR h v0 1 = some q1)
    (k3 : hK h q1 = (1, 0, n1))
    (k4 : hR h v0 2 = some q2)
    (k5 : hK h q2 = (1, 0, n2))
    (k6 : hR h v0 4 = some q3)
    (k7 : hK h q3 = (1, 0, n3))
    (k8 : hR h v0 5 = some q4)
    (k9 : hK h q4 = (1, 0, n4))
    (B1 : vp_in v1 n1)
    (B2 : vp_in v1 n2)
    (B3 : vp_in v1 n3)
    (B4 : vp_in v1 n4)
    (H5 : Q none (setG (setG (setG (setG h q1 v1.toNatClampNeg v2) q2 v1.toNatClampNeg v3) q3 v1.toNatClampNeg (nI 0)) q4 v1.toNatClampNeg (nI 0))) :
    wpE 32 0 [some (.ref v0), some (.int v1), some (.int v2), some (.int v3)] [] h (0, 0) Q :=
  vc_s (ct := fun _ => false) 1000 false (And.intro k1 (Exists.intro q1 (And.intro k2 (Exists.intro n1 (And.intro k3 (And.intro B1 (And.intro k1 (Exists.intro q2 (And.intro k4 (Exists.intro n2 (And.intro k5 (And.intro B2 (And.intro k1 (Exists.intro q3 (And.intro k6 (Exists.intro n3 (And.intro k7 (And.intro B3 (And.intro k1 (Exists.intro q4 (And.intro k8 (Exists.intro n4 (And.intro k9 (And.intro B4 (And.intro rfl H5)))))))))))))))))))))))))
/-- SnapshotRings$State.dependencySum from 0 -/
theorem r_S_dependencySum_0 {v0 : Nat} {v1 : Int32} {v2 : Int32} {v3 : Int32} {v4 : Int32} {q1 : Nat} {n1 : Nat} {q2 : Nat} {n2 : Nat} {h : sn_H} {Q : Option Value → sn_H → Prop}
    (k1 : hK h v0 = (0, 1, 14))
    (k2 : hR h v0 11 = some q1)
    (k3 : hK h q1 = (1, 0, n1))
    (k4 : hR h v0 10 = some q2)
    (k5 : hK h q2 = (1, 0, n2))
    (B1 : v4 ≤ v2 → vp_in v1 n1)
    (B2 : v4 ≤ v2 → vp_in v3 n2)
    (B3 : v4 ≤ v2 → vp_in v1 n2)
    (B4 : v4 ≤ v2 → vp_in v3 n1)
    (H5 : v4 ≤ v2 → ¬ (((hG h q1 v1.toNatClampNeg) &&& (hG h q2 v3.toNatClampNeg)) ||| ((hG h q2 v1.toNatClampNeg) &&& (hG h q1 v3.toNatClampNeg))) = 0 → wpE 34 73 [some (.ref v0), some (.int v1), some (.int v2), some (.int v3), some (.int v4), some (.int (nI 0)), some (.int ((hG h q1 v1.toNatClampNeg) &&& (hG h q2 v3.toNatClampNeg))), some (.int ((hG h q2 v1.toNatClampNeg) &&& (hG h q1 v3.toNatClampNeg))), some (.int (nI 0)), none] [] h (0, 0) Q)
    (H6 : v4 ≤ v2 → (((hG h q1 v1.toNatClampNeg) &&& (hG h q2 v3.toNatClampNeg)) ||| ((hG h q2 v1.toNatClampNeg) &&& (hG h q1 v3.toNatClampNeg))) = 0 → Q (some (.int (nI 0))) h)
    (B7 : ¬ v4 ≤ v2 → vp_in v1 n1)
    (B8 : ¬ v4 ≤ v2 → vp_in v3 n1)
    (B9 : ¬ v4 ≤ v2 → ((hG h q1 v1.toNatClampNeg) &&& (hG h q1 v3.toNatClampNeg)) = 0 → vp_in v3 n2)
    (B10 : ¬ v4 ≤ v2 → ((hG h q1 v1.toNatClampNeg) &&& (hG h q1 v3.toNatClampNeg)) = 0 → vp_in v1 n2)
    (H11 : ¬ v4 ≤ v2 → ((hG h q1 v1.toNatClampNeg) &&& (hG h q1 v3.toNatClampNeg)) = 0 → ¬ (((hG h q1 v1.toNatClampNeg) &&& (hG h q2 v3.toNatClampNeg)) ||| ((hG h q2 v1.toNatClampNeg) &&& (hG h q1 v3.toNatClampNeg))) = 0 → wpE 34 73 [some (.ref v0), some (.int v1), some (.int v2), some (.int v3), some (.int v4), some (.int (nI 0)), some (.int ((hG h q1 v1.toNatClampNeg) &&& (hG h q2 v3.toNatClampNeg))), some (.int ((hG h q2 v1.toNatClampNeg) &&& (hG h q1 v3.toNatClampNeg))), some (.int (nI 0)), none] [] h (0, 0) Q)
    (H12 : ¬ v4 ≤ v2 → ((hG h q1 v1.toNatClampNeg) &&& (hG h q1 v3.toNatClampNeg)) = 0 → (((hG h q1 v1.toNatClampNeg) &&& (hG h q2 v3.toNatClampNeg)) ||| ((hG h q2 v1.toNatClampNeg) &&& (hG h q1 v3.toNatClampNeg))) = 0 → Q (some (.int (nI 0))) h)
    (B13 : ¬ v4 ≤ v2 → ¬ ((hG h q1 v1.toNatClampNeg) &&& (hG h q1 v3.toNatClampNeg)) = 0 → vp_in v3 n2)
    (B14 : ¬ v4 ≤ v2 → ¬ ((hG h q1 v1.toNatClampNeg) &&& (hG h q1 v3.toNatClampNeg)) = 0 → vp_in v1 n2)
    (H15 : ¬ v4 ≤ v2 → ¬ ((hG h q1 v1.toNatClampNeg) &&& (hG h q1 v3.toNatClampNeg)) = 0 → ¬ (((hG h q1 v1.toNatClampNeg) &&& (hG h q2 v3.toNatClampNeg)) ||| ((hG h q2 v1.toNatClampNeg) &&& (hG h q1 v3.toNatClampNeg))) = 0 → wpE 34 73 [some (.ref v0), some (.int v1), some (.int v2), some (.int v3), some (.int v4), some (.int (nI 1)), some (.int ((hG h q1 v1.toNatClampNeg) &&& (hG h q2 v3.toNatClampNeg))), some (.int ((hG h q2 v1.toNatClampNeg) &&& (hG h q1 v3.toNatClampNeg))), some (.int (nI 0)), none] [] h (0, 0) Q)
    (H16 : ¬ v4 ≤ v2 → ¬ ((hG h q1 v1.toNatClampNeg) &&& (hG h q1 v3.toNatClampNeg)) = 0 → (((hG h q1 v1.toNatClampNeg) &&& (hG h q2 v3.toNatClampNeg)) ||| ((hG h q2 v1.toNatClampNeg) &&& (hG h q1 v3.toNatClampNeg))) = 0 → Q (some (.int (nI 1))) h) :
    wpE 34 0 [some (.ref v0), some (.int v1), some (.int v2), some (.int v3), some (.int v4), none, none, none, none, none] [] h (0, 0) Q :=
  vc_s (ct := fun pc => Nat.beq pc 73) 1000 false (And.intro (fun c1 => (And.intro (Nat.le_of_ble_eq_true rfl) (And.intro k1 (Exists.intro q1 (And.intro k2 (Exists.intro 0 (Exists.intro n1 (And.intro k3 (And.intro (B1 c1) (And.intro k1 (Exists.intro q2 (And.intro k4 (Exists.intro 0 (Exists.intro n2 (And.intro k5 (And.intro (B2 c1) (And.intro (Nat.le_of_ble_eq_true rfl) (And.intro k1 (Exists.intro q2 (And.intro k4 (Exists.intro 0 (Exists.intro n2 (And.intro k5 (And.intro (B3 c1) (And.intro k1 (Exists.intro q1 (And.intro k2 (Exists.intro 0 (Exists.intro n1 (And.intro k3 (And.intro (B4 c1) (And.intro (Nat.le_of_ble_eq_true rfl) (And.intro (fun c2 => (And.intro (Nat.le_of_ble_eq_true rfl) (H5 c1 c2))) (fun c3 => (H6 c1 c3))))))))))))))))))))))))))))))))))) (fun c4 => (And.intro k1 (Exists.intro q1 (And.intro k2 (Exists.intro 0 (Exists.intro n1 (And.intro k3 (And.intro (B7 c4) (And.intro k1 (Exists.intro q1 (And.intro k2 (Exists.intro 0 (Exists.intro n1 (And.intro k3 (And.intro (B8 c4) (And.intro (fun c5 => (And.intro (Nat.le_of_ble_eq_true rfl) (And.intro k1 (Exists.intro q1 (And.intro k2 (Exists.intro 0 (Exists.intro n1 (And.intro k3 (And.intro (B7 c4) (And.intro k1 (Exists.intro q2 (And.intro k4 (Exists.intro 0 (Exists.intro n2 (And.intro k5 (And.intro (B9 c4 c5) (And.intro (Nat.le_of_ble_eq_true rfl) (And.intro k1 (Exists.intro q2 (And.intro k4 (Exists.intro 0 (Exists.intro n2 (And.intro k5 (And.intro (B10 c4 c5) (And.intro k1 (Exists.intro q1 (And.intro k2 (Exists.intro 0 (Exists.intro n1 (And.intro k3 (And.intro (B8 c4) (And.intro (Nat.le_of_ble_eq_true rfl) (And.intro (fun c6 => (And.intro (Nat.le_of_ble_eq_true rfl) (H11 c4 c5 c6))) (fun c7 => (H12 c4 c5 c7))))))))))))))))))))))))))))))))))) (fun c8 => (And.intro (Nat.le_of_ble_eq_true rfl) (And.intro k1 (Exists.intro q1 (And.intro k2 (Exists.intro 0 (Exists.intro n1 (And.intro k3 (And.intro (B7 c4) (And.intro k1 (Exists.intro q2 (And.intro k4 (Exists.intro 0 (Exists.intro n2 (And.intro k5 (And.intro (B13 c4 c8) (And.intro (Nat.le_of_ble_eq_true rfl) (And.intro k1 (Exists.intro q2 (And.intro k4 (Exists.intro 0 (Exists.intro n2 (And.intro k5 (And.intro (B14 c4 c8) (And.intro k1 (Exists.intro q1 (And.intro k2 (Exists.intro 0 (Exists.intro n1 (And.intro k3 (And.intro (B8 c4) (And.intro (Nat.le_of_ble_eq_true rfl) (And.intro (fun c9 => (And.intro (Nat.le_of_ble_eq_true rfl) (H15 c4 c8 c9))) (fun c10 => (H16 c4 c8 c10))))))))))))))))))))))))))))))))))))))))))))))))))))
/-- SnapshotRings$State.dependencySum from 73 -/
theorem r_S_dependencySum_73 {v0 : Nat} {v1 : Int32} {v2 : Int32} {v3 : Int32} {v4 : Int32} {v5 : Int32} {v6 : Int32} {v7 : Int32} {v8 : Int32} {q1 : Nat} {n1 : Nat} {h : sn_H} {Q : Option Value → sn_H → Prop}
    (k1 : hK h v0 = (0, 1, 14))
    (k2 : hR h v0 12 = some q1)
    (k3 : hK h q1 = (1, 0, n1))
    (H1 : nI 12 ≤ v8 → Q (some (.int v5)) h)
    (H2 : ¬ nI 12 ≤ v8 → (v6 &&& (nI 1 <<< (v8 &&& 31))) = 0 → (v7 &&& (nI 1 <<< (v8 &&& 31))) = 0 → wpE 34 73 [some (.ref v0), some (.int v1), some (.int v2), some (.int v3), some (.int v4), some (.int v5), some (.int v6), some (.int v7), some (.int (v8 + nI 1)), none] [] h (0, 0) Q)
    (B3 : ¬ nI 12 ≤ v8 → (v6 &&& (nI 1 <<< (v8 &&& 31))) = 0 → ¬ (v7 &&& (nI 1 <<< (v8 &&& 31))) = 0 → vp_in ((v1 * nI 12) + v8) n1)
    (H4 : ¬ nI 12 ≤ v8 → (v6 &&& (nI 1 <<< (v8 &&& 31))) = 0 → ¬ (v7 &&& (nI 1 <<< (v8 &&& 31))) = 0 → v4 ≤ (hG h q1 ((v1 * nI 12) + v8).toNatClampNeg) → wpE 34 73 [some (.ref v0), some (.int v1), some (.int v2), some (.int v3), some (.int v4), some (.int v5), some (.int v6), some (.int v7), some (.int (v8 + nI 1)), none] [] h (0, 0) Q)
    (H5 : ¬ nI 12 ≤ v8 → (v6 &&& (nI 1 <<< (v8 &&& 31))) = 0 → ¬ (v7 &&& (nI 1 <<< (v8 &&& 31))) = 0 → ¬ v4 ≤ (hG h q1 ((v1 * nI 12) + v8).toNatClampNeg) → wpE 34 73 [some (.ref v0), some (.int v1), some (.int v2), some (.int v3), some (.int v4), some (.int (v5 ||| nI 4)), some (.int v6), some (.int v7), some (.int (v8 + nI 1)), none] [] h (0, 0) Q)
    (B6 : ¬ nI 12 ≤ v8 → ¬ (v6 &&& (nI 1 <<< (v8 &&& 31))) = 0 → vp_in ((v3 * nI 12) + v8) n1)
    (H7 : ¬ nI 12 ≤ v8 → ¬ (v6 &&& (nI 1 <<< (v8 &&& 31))) = 0 → ¬ (hG h q1 ((v3 * nI 12) + v8).toNatClampNeg) = v2 → (v7 &&& (nI 1 <<< (v8 &&& 31))) = 0 → wpE 34 73 [some (.ref v0), some (.int v1), some (.int v2), some (.int v3), some (.int v4), some (.int v5), some (.int v6), some (.int v7), some (.int (v8 + nI 1)), none] [] h (0, 0) Q)
    (B8 : ¬ nI 12 ≤ v8 → ¬ (v6 &&& (nI 1 <<< (v8 &&& 31))) = 0 → ¬ (hG h q1 ((v3 * nI 12) + v8).toNatClampNeg) = v2 → ¬ (v7 &&& (nI 1 <<< (v8 &&& 31))) = 0 → vp_in ((v1 * nI 12) + v8) n1)
    (H9 : ¬ nI 12 ≤ v8 → ¬ (v6 &&& (nI 1 <<< (v8 &&& 31))) = 0 → ¬ (hG h q1 ((v3 * nI 12) + v8).toNatClampNeg) = v2 → ¬ (v7 &&& (nI 1 <<< (v8 &&& 31))) = 0 → v4 ≤ (hG h q1 ((v1 * nI 12) + v8).toNatClampNeg) → wpE 34 73 [some (.ref v0), some (.int v1), some (.int v2), some (.int v3), some (.int v4), some (.int v5), some (.int v6), some (.int v7), some (.int (v8 + nI 1)), none] [] h (0, 0) Q)
    (H10 : ¬ nI 12 ≤ v8 → ¬ (v6 &&& (nI 1 <<< (v8 &&& 31))) = 0 → ¬ (hG h q1 ((v3 * nI 12) + v8).toNatClampNeg) = v2 → ¬ (v7 &&& (nI 1 <<< (v8 &&& 31))) = 0 → ¬ v4 ≤ (hG h q1 ((v1 * nI 12) + v8).toNatClampNeg) → wpE 34 73 [some (.ref v0), some (.int v1), some (.int v2), some (.int v3), some (.int v4), some (.int (v5 ||| nI 4)), some (.int v6), some (.int v7), some (.int (v8 + nI 1)), none] [] h (0, 0) Q)
    (H11 : ¬ nI 12 ≤ v8 → ¬ (v6 &&& (nI 1 <<< (v8 &&& 31))) = 0 → (hG h q1 ((v3 * nI 12) + v8).toNatClampNeg) = v2 → (v7 &&& (nI 1 <<< (v8 &&& 31))) = 0 → wpE 34 73 [some (.ref v0), some (.int v1), some (.int v2), some (.int v3), some (.int v4), some (.int (v5 ||| nI 2)), some (.int v6), some (.int v7), some (.int (v8 + nI 1)), none] [] h (0, 0) Q)
    (B12 : ¬ nI 12 ≤ v8 → ¬ (v6 &&& (nI 1 <<< (v8 &&& 31))) = 0 → (hG h q1 ((v3 * nI 12) + v8).toNatClampNeg) = v2 → ¬ (v7 &&& (nI 1 <<< (v8 &&& 31))) = 0 → vp_in ((v1 * nI 12) + v8) n1)
    (H13 : ¬ nI 12 ≤ v8 → ¬ (v6 &&& (nI 1 <<< (v8 &&& 31))) = 0 → (hG h q1 ((v3 * nI 12) + v8).toNatClampNeg) = v2 → ¬ (v7 &&& (nI 1 <<< (v8 &&& 31))) = 0 → v4 ≤ (hG h q1 ((v1 * nI 12) + v8).toNatClampNeg) → wpE 34 73 [some (.ref v0), some (.int v1), some (.int v2), some (.int v3), some (.int v4), some (.int (v5 ||| nI 2)), some (.int v6), some (.int v7), some (.int (v8 + nI 1)), none] [] h (0, 0) Q)
    (H14 : ¬ nI 12 ≤ v8 → ¬ (v6 &&& (nI 1 <<< (v8 &&& 31))) = 0 → (hG h q1 ((v3 * nI 12) + v8).toNatClampNeg) = v2 → ¬ (v7 &&& (nI 1 <<< (v8 &&& 31))) = 0 → ¬ v4 ≤ (hG h q1 ((v1 * nI 12) + v8).toNatClampNeg) → wpE 34 73 [some (.ref v0), some (.int v1), some (.int v2), some (.int v3), some (.int v4), some (.int ((v5 ||| nI 2) ||| nI 4)), some (.int v6), some (.int v7), some (.int (v8 + nI 1)), none] [] h (0, 0) Q) :
    wpE 34 73 [some (.ref v0), some (.int v1), some (.int v2), some (.int v3), some (.int v4), some (.int v5), some (.int v6), some (.int v7), some (.int v8), none] [] h (0, 0) Q :=
  vc_s (ct := fun pc => Nat.beq pc 73) 1000 false (And.intro (fun c1 => (H1 c1)) (fun c2 => (And.intro (Nat.le_of_ble_eq_true rfl) (And.intro (fun c3 => (And.intro (fun c4 => (And.intro (Nat.le_of_ble_eq_true rfl) (@wpE_w _ _ [some (.ref v0), some (.int v1), some (.int v2), some (.int v3), some (.int v4), some (.int v5), some (.int v6), some (.int v7), some (.int (v8 + nI 1)), none] _ _ _ _ _ (show LeL [some (.ref v0), some (.int v1), some (.int v2), some (.int v3), some (.int v4), some (.int v5), some (.int v6), some (.int v7), some (.int (v8 + nI 1)), none] [some (.ref v0), some (.int v1), some (.int v2), some (.int v3), some (.int v4), some (.int v5), some (.int v6), some (.int v7), some (.int (v8 + nI 1)), some (.int (nI 1 <<< (v8 &&& 31)))] from (And.intro rfl (And.intro rfl (And.intro rfl (And.intro rfl (And.intro rfl (And.intro rfl (And.intro rfl (And.intro rfl (And.intro rfl trivial)))))))))) (H2 c2 c3 c4)))) (fun c5 => (And.intro k1 (Exists.intro q1 (And.intro k2 (Exists.intro 0 (Exists.intro n1 (And.intro k3 (And.intro (B3 c2 c3 c5) (And.intro (fun c6 => (And.intro (Nat.le_of_ble_eq_true rfl) (@wpE_w _ _ [some (.ref v0), some (.int v1), some (.int v2), some (.int v3), some (.int v4), some (.int v5), some (.int v6), some (.int v7), some (.int (v8 + nI 1)), none] _ _ _ _ _ (show LeL [some (.ref v0), some (.int v1), some (.int v2), some (.int v3), some (.int v4), some (.int v5), some (.int v6), some (.int v7), some (.int (v8 + nI 1)), none] [some (.ref v0), some (.int v1), some (.int v2), some (.int v3), some (.int v4), some (.int v5), some (.int v6), some (.int v7), some (.int (v8 + nI 1)), some (.int (nI 1 <<< (v8 &&& 31)))] from (And.intro rfl (And.intro rfl (And.intro rfl (And.intro rfl (And.intro rfl (And.intro rfl (And.intro rfl (And.intro rfl (And.intro rfl trivial)))))))))) (H4 c2 c3 c5 c6)))) (fun c7 => (And.intro (Nat.le_of_ble_eq_true rfl) (And.intro (Nat.le_of_ble_eq_true rfl) (@wpE_w _ _ [some (.ref v0), some (.int v1), some (.int v2), some (.int v3), some (.int v4), some (.int (v5 ||| nI 4)), some (.int v6), some (.int v7), some (.int (v8 + nI 1)), none] _ _ _ _ _ (show LeL [some (.ref v0), some (.int v1), some (.int v2), some (.int v3), some (.int v4), some (.int (v5 ||| nI 4)), some (.int v6), some (.int v7), some (.int (v8 + nI 1)), none] [some (.ref v0), some (.int v1), some (.int v2), some (.int v3), some (.int v4), some (.int (v5 ||| nI 4)), some (.int v6), some (.int v7), some (.int (v8 + nI 1)), some (.int (nI 1 <<< (v8 &&& 31)))] from (And.intro rfl (And.intro rfl (And.intro rfl (And.intro rfl (And.intro rfl (And.intro rfl (And.intro rfl (And.intro rfl (And.intro rfl trivial)))))))))) (H5 c2 c3 c5 c7)))))))))))))))) (fun c8 => (And.intro k1 (Exists.intro q1 (And.intro k2 (Exists.intro 0 (Exists.intro n1 (And.intro k3 (And.intro (B6 c2 c8) (And.intro (fun c9 => (And.intro (fun c10 => (And.intro (Nat.le_of_ble_eq_true rfl) (@wpE_w _ _ [some (.ref v0), some (.int v1), some (.int v2), some (.int v3), some (.int v4), some (.int v5), some (.int v6), some (.int v7), some (.int (v8 + nI 1)), none] _ _ _ _ _ (show LeL [some (.ref v0), some (.int v1), some (.int v2), some (.int v3), some (.int v4), some (.int v5), some (.int v6), some (.int v7), some (.int (v8 + nI 1)), none] [some (.ref v0), some (.int v1), some (.int v2), some (.int v3), some (.int v4), some (.int v5), some (.int v6), some (.int v7), some (.int (v8 + nI 1)), some (.int (nI 1 <<< (v8 &&& 31)))] from (And.intro rfl (And.intro rfl (And.intro rfl (And.intro rfl (And.intro rfl (And.intro rfl (And.intro rfl (And.intro rfl (And.intro rfl trivial)))))))))) (H7 c2 c8 c9 c10)))) (fun c11 => (And.intro k1 (Exists.intro q1 (And.intro k2 (Exists.intro 0 (Exists.intro n1 (And.intro k3 (And.intro (B8 c2 c8 c9 c11) (And.intro (fun c12 => (And.intro (Nat.le_of_ble_eq_true rfl) (@wpE_w _ _ [some (.ref v0), some (.int v1), some (.int v2), some (.int v3), some (.int v4), some (.int v5), some (.int v6), some (.int v7), some (.int (v8 + nI 1)), none] _ _ _ _ _ (show LeL [some (.ref v0), some (.int v1), some (.int v2), some (.int v3), some (.int v4), some (.int v5), some (.int v6), some (.int v7), some (.int (v8 + nI 1)), none] [some (.ref v0), some (.int v1), some (.int v2), some (.int v3), some (.int v4), some (.int v5), some (.int v6), some (.int v7), some (.int (v8 + nI 1)), some (.int (nI 1 <<< (v8 &&& 31)))] from (And.intro rfl (And.intro rfl (And.intro rfl (And.intro rfl (And.intro rfl (And.intro rfl (And.intro rfl (And.intro rfl (And.intro rfl trivial)))))))))) (H9 c2 c8 c9 c11 c12)))) (fun c13 => (And.intro (Nat.le_of_ble_eq_true rfl) (And.intro (Nat.le_of_ble_eq_true rfl) (@wpE_w _ _ [some (.ref v0), some (.int v1), some (.int v2), some (.int v3), some (.int v4), some (.int (v5 ||| nI 4)), some (.int v6), some (.int v7), some (.int (v8 + nI 1)), none] _ _ _ _ _ (show LeL [some (.ref v0), some (.int v1), some (.int v2), some (.int v3), some (.int v4), some (.int (v5 ||| nI 4)), some (.int v6), some (.int v7), some (.int (v8 + nI 1)), none] [some (.ref v0), some (.int v1), some (.int v2), some (.int v3), some (.int v4), some (.int (v5 ||| nI 4)), some (.int v6), some (.int v7), some (.int (v8 + nI 1)), some (.int (nI 1 <<< (v8 &&& 31)))] from (And.intro rfl (And.intro rfl (And.intro rfl (And.intro rfl (And.intro rfl (And.intro rfl (And.intro rfl (And.intro rfl (And.intro rfl trivial)))))))))) (H10 c2 c8 c9 c11 c13)))))))))))))))) (fun c14 => (And.intro (Nat.le_of_ble_eq_true rfl) (And.intro (fun c15 => (And.intro (Nat.le_of_ble_eq_true rfl) (@wpE_w _ _ [some (.ref v0), some (.int v1), some (.int v2), some (.int v3), some (.int v4), some (.int (v5 ||| nI 2)), some (.int v6), some (.int v7), some (.int (v8 + nI 1)), none] _ _ _ _ _ (show LeL [some (.ref v0), some (.int v1), some (.int v2), some (.int v3), some (.int v4), some (.int (v5 ||| nI 2)), some (.int v6), some (.int v7), some (.int (v8 + nI 1)), none] [some (.ref v0), some (.int v1), some (.int v2), some (.int v3), some (.int v4), some (.int (v5 ||| nI 2)), some (.int v6), some (.int v7), some (.int (v8 + nI 1)), some (.int (nI 1 <<< (v8 &&& 31)))] from (And.intro rfl (And.intro rfl (And.intro rfl (And.intro rfl (And.intro rfl (And.intro rfl (And.intro rfl (And.intro rfl (And.intro rfl trivial)))))))))) (H11 c2 c8 c14 c15)))) (fun c16 => (And.intro k1 (Exists.intro q1 (And.intro k2 (Exists.intro 0 (Exists.intro n1 (And.intro k3 (And.intro (B12 c2 c8 c14 c16) (And.intro (fun c17 => (And.intro (Nat.le_of_ble_eq_true rfl) (@wpE_w _ _ [some (.ref v0), some (.int v1), some (.int v2), some (.int v3), some (.int v4), some (.int (v5 ||| nI 2)), some (.int v6), some (.int v7), some (.int (v8 + nI 1)), none] _ _ _ _ _ (show LeL [some (.ref v0), some (.int v1), some (.int v2), some (.int v3), some (.int v4), some (.int (v5 ||| nI 2)), some (.int v6), some (.int v7), some (.int (v8 + nI 1)), none] [some (.ref v0), some (.int v1), some (.int v2), some (.int v3), some (.int v4), some (.int (v5 ||| nI 2)), some (.int v6), some (.int v7), some (.int (v8 + nI 1)), some (.int (nI 1 <<< (v8 &&& 31)))] from (And.intro rfl (And.intro rfl (And.intro rfl (And.intro rfl (And.intro rfl (And.intro rfl (And.intro rfl (And.intro rfl (And.intro rfl trivial)))))))))) (H13 c2 c8 c14 c16 c17)))) (fun c18 => (And.intro (Nat.le_of_ble_eq_true rfl) (And.intro (Nat.le_of_ble_eq_true rfl) (@wpE_w _ _ [some (.ref v0), some (.int v1), some (.int v2), some (.int v3), some (.int v4), some (.int ((v5 ||| nI 2) ||| nI 4)), some (.int v6), some (.int v7), some (.int (v8 + nI 1)), none] _ _ _ _ _ (show LeL [some (.ref v0), some (.int v1), some (.int v2), some (.int v3), some (.int v4), some (.int ((v5 ||| nI 2) ||| nI 4)), some (.int v6), some (.int v7), some (.int (v8 + nI 1)), none] [some (.ref v0), some (.int v1), some (.int v2), some (.int v3), some (.int v4), some (.int ((v5 ||| nI 2) ||| nI 4)), some (.int v6), some (.int v7), some (.int (v8 + nI 1)), some (.int (nI 1 <<< (v8 &&& 31)))] from (And.intro rfl (And.intro rfl (And.intro rfl (And.intro rfl (And.intro rfl (And.intro rfl (And.intro rfl (And.intro rfl (And.intro rfl trivial)))))))))) (H14 c2 c8 c14 c16 c18))))))))))))))))))))))))))))))
/-- SnapshotRings$Graph.link from 0 -/
theorem r_G_link_0 {v0 : Nat} {v1 : Nat} {v2 : Int32} {v3 : Int32} {q1 : Nat} {n1 : Nat} {q2 : Nat} {n2 : Nat} {h : sn_H} {Q : Option Value → sn_H → Prop}
    (k1 : hK h v0 = (0, 3, 10))
    (k2 : hR h v0 1 = some q1)
    (k3 : hK h q1 = (1, 0, n1))
    (k4 : hR h v0 2 = some q2)
    (k5 : hK h q2 = (1, 0, n2))
    (k6 : hK h v1 = (0, 1, 14))
    (B1 : vp_in v2 n1)
    (B2 : vp_in v2 n2)
    (B3 : vp_in v3 n1)
    (B4 : vp_in v3 n2)
    (H5 : wpE 34 0 [some (.ref v1), some (.int (hG h q1 v2.toNatClampNeg)), some (.int (hG h q2 v2.toNatClampNeg)), some (.int (hG h q1 v3.toNatClampNeg)), some (.int (hG h q2 v3.toNatClampNeg)), none, none, none, none, none] [] h (0, 0) (fun r h => wpE 33 28 [some (.ref v0), none, some (.int v2), some (.int v3), none] (r.toList ++ []) h (0, 0) Q)) :
    wpE 33 0 [some (.ref v0), some (.ref v1), some (.int v2), some (.int v3), none] [] h (0, 0) Q :=
  vc_s (ct := fun pc => Nat.beq pc 60) 1000 false (And.intro k1 (Exists.intro q1 (And.intro k2 (Exists.intro 0 (Exists.intro n1 (And.intro k3 (And.intro B1 (And.intro k1 (Exists.intro q2 (And.intro k4 (Exists.intro 0 (Exists.intro n2 (And.intro k5 (And.intro B2 (And.intro k1 (Exists.intro q1 (And.intro k2 (Exists.intro 0 (Exists.intro n1 (And.intro k3 (And.intro B3 (And.intro k1 (Exists.intro q2 (And.intro k4 (Exists.intro 0 (Exists.intro n2 (And.intro k5 (And.intro B4 (And.intro k6 (And.intro (Nat.le_of_ble_eq_true rfl) (And.intro (Nat.le_of_ble_eq_true rfl) (And.intro (Nat.le_of_ble_eq_true rfl) (And.intro (Nat.le_of_ble_eq_true rfl) (wpE_m (fun _ _ HH => @wpE_w _ _ [some (.ref v0), none, some (.int v2), some (.int v3), none] _ _ _ _ _ (show LeL [some (.ref v0), none, some (.int v2), some (.int v3), none] [some (.ref v0), some (.ref v1), some (.int v2), some (.int v3), none] from (And.intro rfl (And.intro rfl (And.intro rfl trivial)))) HH) H5))))))))))))))))))))))))))))))))))
/-- SnapshotRings$Graph.link from 28 -/
theorem r_G_link_28 {v0 : Nat} {v2 : Int32} {v3 : Int32} {s0 : Int32} {q1 : Nat} {n1 : Nat} {q2 : Nat} {n2 : Nat} {h : sn_H} {Q : Option Value → sn_H → Prop}
    (k1 : hK h v0 = (0, 3, 10))
    (k2 : hR h v0 3 = some q1)
    (k3 : hK h q1 = (1, 0, n1))
    (k4 : hR h v0 4 = some q2)
    (k5 : hK h q2 = (1, 0, n2))
    (B1 : vp_in ((v2 * nI 17) + v3) n1)
    (H2 : s0 = 0 → wpE 33 60 [some (.ref v0), none, some (.int v2), some (.int v3), some (.int s0)] [] (setG h q1 ((v2 * nI 17) + v3).toNatClampNeg s0) (0, 0) Q)
    (B3 : ¬ s0 = 0 → vp_in v2 n2)
    (H4 : ¬ s0 = 0 → wpE 33 60 [some (.ref v0), none, some (.int v2), some (.int v3), some (.int s0)] [] (setG (setG h q1 ((v2 * nI 17) + v3).toNatClampNeg s0) q2 v2.toNatClampNeg ((hG (setG h q1 ((v2 * nI 17) + v3).toNatClampNeg s0) q2 v2.toNatClampNeg) ||| (nI 1 <<< (v3 &&& 31)))) (0, 0) Q) :
    wpE 33 28 [some (.ref v0), none, some (.int v2), some (.int v3), none] [.int s0] h (0, 0) Q :=
  vc_s (ct := fun pc => Nat.beq pc 60) 1000 false (And.intro (Nat.le_of_ble_eq_true rfl) (And.intro k1 (Exists.intro q1 (And.intro k2 (Exists.intro n1 (And.intro k3 (And.intro B1 (And.intro (fun c1 => (H2 c1)) (fun c2 => (And.intro k1 (Exists.intro q2 (And.intro k4 (And.intro rfl (And.intro rfl (Exists.intro 0 (Exists.intro n2 (And.intro k5 (And.intro (B3 c2) (Exists.intro n2 (And.intro k5 (And.intro (B3 c2) (H4 c2))))))))))))))))))))))
/-- SnapshotRings$Graph.link from 60 -/
theorem r_G_link_60 {v0 : Nat} {v2 : Int32} {v3 : Int32} {v4 : Int32} {q1 : Nat} {n1 : Nat} {h : sn_H} {Q : Option Value → sn_H → Prop}
    (k1 : hK h v0 = (0, 3, 10))
    (k2 : hR h v0 5 = some q1)
    (k3 : hK h q1 = (1, 0, n1))
    (H1 : (v4 &&& nI 4) = 0 → Q none h)
    (B2 : ¬ (v4 &&& nI 4) = 0 → vp_in v2 n1)
    (H3 : ¬ (v4 &&& nI 4) = 0 → Q none (setG h q1 v2.toNatClampNeg ((hG h q1 v2.toNatClampNeg) ||| (nI 1 <<< (v3 &&& 31))))) :
    wpE 33 60 [some (.ref v0), none, some (.int v2), some (.int v3), some (.int v4)] [] h (0, 0) Q :=
  vc_s (ct := fun pc => Nat.beq pc 60) 1000 false (And.intro (fun c1 => (And.intro rfl (H1 c1))) (fun c2 => (And.intro k1 (Exists.intro q1 (And.intro k2 (And.intro rfl (And.intro rfl (Exists.intro 0 (Exists.intro n1 (And.intro k3 (And.intro (B2 c2) (Exists.intro n1 (And.intro k3 (And.intro (B2 c2) (And.intro rfl (H3 c2))))))))))))))))
/-- SnapshotRings$Graph.load from 0 -/
theorem r_G_load_0 {v0 : Nat} {v1 : Nat} {h : sn_H} {Q : Option Value → sn_H → Prop}
    (k1 : hK h v1 = (0, 1, 14))
    (k2 : hK h v0 = (0, 3, 10))
    (H1 : wpE 29 22 [some (.ref v0), some (.ref v1), some (.int (((hG (setG h v0 0 (if nI 16 < (hG h v1 1) then nI 16 else (hG h v1 1))) v1 1) - (hG (setG h v0 0 (if nI 16 < (hG h v1 1) then nI 16 else (hG h v1 1))) v0 0)) + nI 1)), some (.int (nI 0)), none] [] (setG h v0 0 (if nI 16 < (hG h v1 1) then nI 16 else (hG h v1 1))) (0, 0) Q) :
    wpE 29 0 [some (.ref v0), some (.ref v1), none, none, none] [] h (0, 0) Q :=
  vc_s (ct := fun pc => Nat.beq pc 22 || Nat.beq pc 48 || Nat.beq pc 53 || Nat.beq pc 64) 1000 false (And.intro k1 (And.intro (Nat.le_of_ble_eq_true rfl) (And.intro (Nat.le_of_ble_eq_true rfl) (And.intro (Nat.le_of_ble_eq_true rfl) (And.intro (Nat.le_of_ble_eq_true rfl) (r_S_keptCommits_0 (v0 := v1) (h := h) k1 ((vc_s (ct := fun pc => Nat.beq pc 22 || Nat.beq pc 48 || Nat.beq pc 53 || Nat.beq pc 64) 1000 false (And.intro k2 (And.intro rfl (And.intro k1 (And.intro k2 (And.intro (Nat.le_of_ble_eq_true rfl) (And.intro (Nat.le_of_ble_eq_true rfl) H1))))))))))))))
/-- SnapshotRings$Graph.load from 22 -/
theorem r_G_load_22 {v0 : Nat} {v1 : Nat} {v2 : Int32} {v3 : Int32} {q1 : Nat} {n1 : Nat} {q2 : Nat} {n2 : Nat} {q3 : Nat} {n3 : Nat} {q4 : Nat} {n4 : Nat} {h : sn_H} {Q : Option Value → sn_H → Prop}
    (k1 : hK h v0 = (0, 3, 10))
    (k2 : hK h v1 = (0, 1, 14))
    (k3 : hR h v0 1 = some q1)
    (k4 : hK h q1 = (1, 0, n1))
    (k5 : hR h v0 2 = some q2)
    (k6 : hK h q2 = (1, 0, n2))
    (k7 : hR h v0 4 = some q3)
    (k8 : hK h q3 = (1, 0, n3))
    (k9 : hR h v0 5 = some q4)
    (k10 : hK h q4 = (1, 0, n4))
    (H1 : (hG h v0 0) ≤ v3 → wpE 29 53 [some (.ref v0), some (.ref v1), none, some (.int (nI 0)), none] [] h (0, 0) Q)
    (B2 : ¬ (hG h v0 0) ≤ v3 → vp_in v3 n1)
    (B3 : ¬ (hG h v0 0) ≤ v3 → vp_in v3 n2)
    (B4 : ¬ (hG h v0 0) ≤ v3 → vp_in v3 n3)
    (B5 : ¬ (hG h v0 0) ≤ v3 → vp_in v3 n4)
    (H6 : ¬ (hG h v0 0) ≤ v3 → wpE 29 48 [some (.ref v0), some (.ref v1), some (.int v2), some (.int (v3 + nI 1)), none] [] (setG (setG (setG (setG h q1 v3.toNatClampNeg (nI 8 + (((v2 + v3) - nI 1) &&& nI 15))) q2 v3.toNatClampNeg (v2 + v3)) q3 v3.toNatClampNeg (nI 0)) q4 v3.toNatClampNeg (nI 0)) (0, 0) Q) :
    wpE 29 22 [some (.ref v0), some (.ref v1), some (.int v2), some (.int v3), none] [] h (0, 0) Q :=
  vc_s (ct := fun pc => Nat.beq pc 22 || Nat.beq pc 48 || Nat.beq pc 53 || Nat.beq pc 64) 1000 false (And.intro k1 (And.intro (fun c1 => (And.intro (Nat.le_of_ble_eq_true rfl) (@wpE_w _ _ [some (.ref v0), some (.ref v1), none, some (.int (nI 0)), none] _ _ _ _ _ (show LeL [some (.ref v0), some (.ref v1), none, some (.int (nI 0)), none] [some (.ref v0), some (.ref v1), some (.int v2), some (.int (nI 0)), none] from (And.intro rfl (And.intro rfl (And.intro rfl trivial)))) (H1 c1)))) (fun c2 => (And.intro k2 (And.intro (Nat.le_of_ble_eq_true rfl) (And.intro (Nat.le_of_ble_eq_true rfl) (And.intro (Nat.le_of_ble_eq_true rfl) (And.intro (Nat.le_of_ble_eq_true rfl) (r_S_rowOfCommit_0 (v0 := v1) (v1 := (v2 + v3)) (h := h) ((vc_s (ct := fun pc => Nat.beq pc 22 || Nat.beq pc 48 || Nat.beq pc 53 || Nat.beq pc 64) 1000 false (And.intro k1 (And.intro (Nat.le_of_ble_eq_true rfl) (And.intro (Nat.le_of_ble_eq_true rfl) (And.intro (Nat.le_of_ble_eq_true rfl) (And.intro (Nat.le_of_ble_eq_true rfl) (r_G_setNode_0 (v0 := v0) (v1 := v3) (v2 := (nI 8 + (((v2 + v3) - nI 1) &&& nI 15))) (v3 := (v2 + v3)) (q1 := q1) (n1 := n1) (q2 := q2) (n2 := n2) (q3 := q3) (n3 := n3) (q4 := q4) (n4 := n4) (h := h) k1 k3 k4 k5 k6 k7 k8 k9 k10 ((B2 c2)) ((B3 c2)) ((B4 c2)) ((B5 c2)) ((vc_s (ct := fun pc => Nat.beq pc 22 || Nat.beq pc 48 || Nat.beq pc 53 || Nat.beq pc 64) 1000 false (And.intro (Nat.le_of_ble_eq_true rfl) (H6 c2)))))))))))))))))))))
/-- SnapshotRings$Graph.load from 53 -/
theorem r_G_load_53 {v0 : Nat} {v1 : Nat} {v3 : Int32} {h : sn_H} {Q : Option Value → sn_H → Prop}
    (k1 : hK h v0 = (0, 3, 10))
    (H1 : (hG h v0 0) ≤ v3 → Q none h)
    (H2 : ¬ (hG h v0 0) ≤ v3 → wpE 29 64 [some (.ref v0), some (.ref v1), none, some (.int v3), some (.int (nI 0))] [] h (0, 0) Q) :
    wpE 29 53 [some (.ref v0), some (.ref v1), none, some (.int v3), none] [] h (0, 0) Q :=
  vc_s (ct := fun pc => Nat.beq pc 22 || Nat.beq pc 48 || Nat.beq pc 53 || Nat.beq pc 64) 1000 false (And.intro k1 (And.intro (fun c1 => (And.intro rfl (H1 c1))) (fun c2 => (And.intro (Nat.le_of_ble_eq_true rfl) (H2 c2)))))
/-- SnapshotRings$Graph.load from 48 -/
theorem r_G_load_48 {v0 : Nat} {v1 : Nat} {v2 : Int32} {v3 : Int32} {h : sn_H} {Q : Option Value → sn_H → Prop}
    (H1 : wpE 29 22 [some (.ref v0), some (.ref v1), some (.int v2), some (.int v3), none] [] h (0, 0) Q) :
    wpE 29 48 [some (.ref v0), some (.ref v1), some (.int v2), some (.int v3), none] [] h (0, 0) Q :=
  vc_s (ct := fun pc => Nat.beq pc 22 || Nat.beq pc 48 || Nat.beq pc 53 || Nat.beq pc 64) 1000 false H1
/-- SnapshotRings$Graph.load from 64 -/
theorem r_G_load_64 {v0 : Nat} {v1 : Nat} {v3 : Int32} {v4 : Int32} {h : sn_H} {Q : Option Value → sn_H → Prop}
    (k1 : hK h v0 = (0, 3, 10))
    (H1 : (hG h v0 0) ≤ v4 → wpE 29 53 [some (.ref v0), some (.ref v1), none, some (.int (v3 + nI 1)), none] [] h (0, 0) Q)
    (H2 : ¬ (hG h v0 0) ≤ v4 → v3 = v4 → wpE 29 64 [some (.ref v0), some (.ref v1), none, some (.int v3), some (.int (v4 + nI 1))] [] h (0, 0) Q)
    (H3 : ¬ (hG h v0 0) ≤ v4 → ¬ v3 = v4 → wpE 33 0 [some (.ref v0), some (.ref v1), some (.int v3), some (.int v4), none] [] h (0, 0) (fun r h => wpE 29 87 [some (.ref v0), some (.ref v1), none, some (.int v3), some (.int v4)] (r.toList ++ []) h (0, 0) Q)) :
    wpE 29 64 [some (.ref v0), some (.ref v1), none, some (.int v3), some (.int v4)] [] h (0, 0) Q :=
  vc_s (ct := fun pc => Nat.beq pc 22 || Nat.beq pc 48 || Nat.beq pc 53 || Nat.beq pc 64) 1000 false (And.intro k1 (And.intro (fun c1 => (And.intro (Nat.le_of_ble_eq_true rfl) (@wpE_w _ _ [some (.ref v0), some (.ref v1), none, some (.int (v3 + nI 1)), none] _ _ _ _ _ (show LeL [some (.ref v0), some (.ref v1), none, some (.int (v3 + nI 1)), none] [some (.ref v0), some (.ref v1), none, some (.int (v3 + nI 1)), some (.int v4)] from (And.intro rfl (And.intro rfl (And.intro rfl trivial)))) (H1 c1)))) (fun c2 => (And.intro (fun c3 => (And.intro (Nat.le_of_ble_eq_true rfl) (H2 c2 c3))) (fun c4 => (And.intro k1 (And.intro (Nat.le_of_ble_eq_true rfl) (And.intro (Nat.le_of_ble_eq_true rfl) (And.intro (Nat.le_of_ble_eq_true rfl) (And.intro (Nat.le_of_ble_eq_true rfl) (H3 c2 c4)))))))))))
/-- SnapshotRings$Graph.load from 87 -/
theorem r_G_load_87 {v0 : Nat} {v1 : Nat} {v3 : Int32} {v4 : Int32} {h : sn_H} {Q : Option Value → sn_H → Prop}
    (H1 : wpE 29 64 [some (.ref v0), some (.ref v1), none, some (.int v3), some (.int (v4 + nI 1))] [] h (0, 0) Q) :
    wpE 29 87 [some (.ref v0), some (.ref v1), none, some (.int v3), some (.int v4)] [] h (0, 0) Q :=
  vc_s (ct := fun pc => Nat.beq pc 22 || Nat.beq pc 48 || Nat.beq pc 53 || Nat.beq pc 64) 1000 false (And.intro (Nat.le_of_ble_eq_true rfl) H1)
/-- SnapshotRings$Graph.join from 0 -/
theorem r_G_join_0 {v0 : Nat} {v1 : Nat} {v2 : Int32} {q1 : Nat} {n1 : Nat} {q2 : Nat} {n2 : Nat} {q3 : Nat} {n3 : Nat} {q4 : Nat} {n4 : Nat} {h : sn_H} {Q : Option Value → sn_H → Prop}
    (k1 : hK h v0 = (0, 3, 10))
    (k2 : hK h v1 = (0, 1, 14))
    (k3 : hR h v0 1 = some q1)
    (k4 : hK h q1 = (1, 0, n1))
    (k5 : hR h v0 2 = some q2)
    (k6 : hK h q2 = (1, 0, n2))
    (k7 : hR h v0 4 = some q3)
    (k8 : hK h q3 = (1, 0, n3))
    (k9 : hR h v0 5 = some q4)
    (k10 : hK h q4 = (1, 0, n4))
    (B1 : (hG h v0 0) < nI 17 → vp_in (hG h v0 0) n1)
    (B2 : (hG h v0 0) < nI 17 → vp_in (hG h v0 0) n2)
    (B3 : (hG h v0 0) < nI 17 → vp_in (hG h v0 0) n3)
    (B4 : (hG h v0 0) < nI 17 → vp_in (hG h v0 0) n4)
    (H5 : (hG h v0 0) < nI 17 → wpE 35 40 [some (.ref v0), some (.ref v1), none, some (.int (hG h v0 0)), some (.int (nI 0))] [] (setG (setG (setG (setG (setG h v0 0 ((hG h v0 0) + nI 1)) q1 (hG h v0 0).toNatClampNeg v2) q2 (hG h v0 0).toNatClampNeg ((hG (setG h v0 0 ((hG h v0 0) + nI 1)) v1 1) + nI 1)) q3 (hG h v0 0).toNatClampNeg (nI 0)) q4 (hG h v0 0).toNatClampNeg (nI 0)) (0, 0) Q)
    (H6 : ¬ (hG h v0 0) < nI 17 → Q none h) :
    wpE 35 0 [some (.ref v0), some (.ref v1), some (.int v2), none, none] [] h (0, 0) Q :=
  vc_s (ct := fun pc => Nat.beq pc 40) 1000 false (And.intro k1 (And.intro (fun c1 => (And.intro k1 (And.intro (Nat.le_of_ble_eq_true rfl) (And.intro rfl (And.intro k1 (And.intro k1 (And.intro rfl (And.intro k2 (And.intro k1 (And.intro (Nat.le_of_ble_eq_true rfl) (And.intro (Nat.le_of_ble_eq_true rfl) (And.intro (Nat.le_of_ble_eq_true rfl) (And.intro (Nat.le_of_ble_eq_true rfl) (r_G_setNode_0 (v0 := v0) (v1 := (hG h v0 0)) (v2 := v2) (v3 := ((hG (setG h v0 0 ((hG h v0 0) + nI 1)) v1 1) + nI 1)) (q1 := q1) (n1 := n1) (q2 := q2) (n2 := n2) (q3 := q3) (n3 := n3) (q4 := q4) (n4 := n4) (h := (setG h v0 0 ((hG h v0 0) + nI 1))) k1 k3 k4 k5 k6 k7 k8 k9 k10 ((B1 c1)) ((B2 c1)) ((B3 c1)) ((B4 c1)) ((vc_s (ct := fun pc => Nat.beq pc 40) 1000 false (And.intro (Nat.le_of_ble_eq_true rfl) (@wpE_w _ _ [some (.ref v0), some (.ref v1), none, some (.int (hG h v0 0)), some (.int (nI 0))] _ _ _ _ _ (show LeL [some (.ref v0), some (.ref v1), none, some (.int (hG h v0 0)), some (.int (nI 0))] [some (.ref v0), some (.ref v1), some (.int v2), some (.int (hG h v0 0)), some (.int (nI 0))] from (And.intro rfl (And.intro rfl (And.intro rfl (And.intro rfl trivial))))) (H5 c1))))))))))))))))))) (fun c2 => (And.intro rfl (H6 c2)))))
/-- SnapshotRings$Graph.join from 40 -/
theorem r_G_join_40 {v0 : Nat} {v1 : Nat} {v3 : Int32} {v4 : Int32} {h : sn_H} {Q : Option Value → sn_H → Prop}
    (k1 : hK h v0 = (0, 3, 10))
    (H1 : v3 ≤ v4 → Q none h)
    (H2 : ¬ v3 ≤ v4 → wpE 33 0 [some (.ref v0), some (.ref v1), some (.int v4), some (.int v3), none] [] h (0, 0) (fun r h => wpE 35 54 [some (.ref v0), some (.ref v1), none, some (.int v3), some (.int v4)] (r.toList ++ []) h (0, 0) Q)) :
    wpE 35 40 [some (.ref v0), some (.ref v1), none, some (.int v3), some (.int v4)] [] h (0, 0) Q :=
  vc_s (ct := fun pc => Nat.beq pc 40) 1000 false (And.intro (fun c1 => (And.intro rfl (H1 c1))) (fun c2 => (And.intro k1 (And.intro (Nat.le_of_ble_eq_true rfl) (And.intro (Nat.le_of_ble_eq_true rfl) (And.intro (Nat.le_of_ble_eq_true rfl) (And.intro (Nat.le_of_ble_eq_true rfl) (H2 c2))))))))
/-- SnapshotRings$Graph.join from 54 -/
theorem r_G_join_54 {v0 : Nat} {v1 : Nat} {v3 : Int32} {v4 : Int32} {h : sn_H} {Q : Option Value → sn_H → Prop}
    (k1 : hK h v0 = (0, 3, 10))
    (H1 : wpE 33 0 [some (.ref v0), some (.ref v1), some (.int v3), some (.int v4), none] [] h (0, 0) (fun r h => wpE 35 62 [some (.ref v0), some (.ref v1), none, some (.int v3), some (.int v4)] (r.toList ++ []) h (0, 0) Q)) :
    wpE 35 54 [some (.ref v0), some (.ref v1), none, some (.int v3), some (.int v4)] [] h (0, 0) Q :=
  vc_s (ct := fun pc => Nat.beq pc 40) 1000 false (And.intro k1 (And.intro (Nat.le_of_ble_eq_true rfl) (And.intro (Nat.le_of_ble_eq_true rfl) (And.intro (Nat.le_of_ble_eq_true rfl) (And.intro (Nat.le_of_ble_eq_true rfl) H1)))))
/-- SnapshotRings$Graph.join from 62 -/
theorem r_G_join_62 {v0 : Nat} {v1 : Nat} {v3 : Int32} {v4 : Int32} {h : sn_H} {Q : Option Value → sn_H → Prop}
    (H1 : wpE 35 40 [some (.ref v0), some (.ref v1), none, some (.int v3), some (.int (v4 + nI 1))] [] h (0, 0) Q) :
    wpE 35 62 [some (.ref v0), some (.ref v1), none, some (.int v3), some (.int v4)] [] h (0, 0) Q :=
  vc_s (ct := fun pc => Nat.beq pc 40) 1000 false (And.intro (Nat.le_of_ble_eq_true rfl) H1)
/-- SnapshotRings$Graph.countSteps from 0 -/
theorem r_G_countSteps_0 {v0 : Nat} {v1 : Int32} {h : sn_H} {Q : Option Value → sn_H → Prop}
    (H1 : wpE 37 2 [some (.ref v0), some (.int v1), some (.int (nI 0)), none, none, none] [] h (0, 0) Q) :
    wpE 37 0 [some (.ref v0), some (.int v1), none, none, none, none] [] h (0, 0) Q :=
  vc_s (ct := fun pc => Nat.beq pc 2 || Nat.beq pc 37 || Nat.beq pc 51) 1000 false (And.intro (Nat.le_of_ble_eq_true rfl) H1)
/-- SnapshotRings$Graph.countSteps from 2 -/
theorem r_G_countSteps_2 {v0 : Nat} {v1 : Int32} {v2 : Int32} {q1 : Nat} {n1 : Nat} {h : sn_H} {Q : Option Value → sn_H → Prop}
    (k1 : hK h v0 = (0, 3, 10))
    (k2 : hR h v0 7 = some q1)
    (k3 : hK h q1 = (1, 0, n1))
    (B1 : (hG h v0 0) ≤ v2 → vp_in v1 n1)
    (H2 : (hG h v0 0) ≤ v2 → wpE 37 37 [some (.ref v0), none, some (.int (nI 1 <<< (v1 &&& 31))), some (.int (nI 1)), none, none] [] (setG h q1 v1.toNatClampNeg (nI 0)) (0, 0) Q)
    (B3 : ¬ (hG h v0 0) ≤ v2 → vp_in v2 n1)
    (H4 : ¬ (hG h v0 0) ≤ v2 → wpE 37 2 [some (.ref v0), some (.int v1), some (.int (v2 + nI 1)), none, none, none] [] (setG h q1 v2.toNatClampNeg (nI 17)) (0, 0) Q) :
    wpE 37 2 [some (.ref v0), some (.int v1), some (.int v2), none, none, none] [] h (0, 0) Q :=
  vc_s (ct := fun pc => Nat.beq pc 2 || Nat.beq pc 37 || Nat.beq pc 51) 1000 false (And.intro k1 (And.intro (fun c1 => (And.intro k1 (Exists.intro q1 (And.intro k2 (Exists.intro n1 (And.intro k3 (And.intro (B1 c1) (And.intro (Nat.le_of_ble_eq_true rfl) (And.intro (Nat.le_of_ble_eq_true rfl) (@wpE_w _ _ [some (.ref v0), none, some (.int (nI 1 <<< (v1 &&& 31))), some (.int (nI 1)), none, none] _ _ _ _ _ (show LeL [some (.ref v0), none, some (.int (nI 1 <<< (v1 &&& 31))), some (.int (nI 1)), none, none] [some (.ref v0), some (.int v1), some (.int (nI 1 <<< (v1 &&& 31))), some (.int (nI 1)), none, none] from (And.intro rfl (And.intro rfl (And.intro rfl trivial)))) (H2 c1))))))))))) (fun c2 => (And.intro k1 (Exists.intro q1 (And.intro k2 (Exists.intro n1 (And.intro k3 (And.intro (B3 c2) (And.intro (Nat.le_of_ble_eq_true rfl) (H4 c2)))))))))))
/-- SnapshotRings$Graph.countSteps from 37 -/
theorem r_G_countSteps_37 {v0 : Nat} {v2 : Int32} {v3 : Int32} {h : sn_H} {Q : Option Value → sn_H → Prop}
    (k1 : hK h v0 = (0, 3, 10))
    (H1 : (hG h v0 0) ≤ v3 → Q none h)
    (H2 : ¬ (hG h v0 0) ≤ v3 → wpE 37 51 [some (.ref v0), none, some (.int v2), some (.int v3), some (.int (nI 0)), some (.int (nI 0))] [] h (0, 0) Q) :
    wpE 37 37 [some (.ref v0), none, some (.int v2), some (.int v3), none, none] [] h (0, 0) Q :=
  vc_s (ct := fun pc => Nat.beq pc 2 || Nat.beq pc 37 || Nat.beq pc 51) 1000 false (And.intro k1 (And.intro (fun c1 => (And.intro rfl (H1 c1))) (fun c2 => (And.intro (Nat.le_of_ble_eq_true rfl) (And.intro (Nat.le_of_ble_eq_true rfl) (H2 c2))))))
/-- SnapshotRings$Graph.countSteps from 51 -/
theorem r_G_countSteps_51 {v0 : Nat} {v2 : Int32} {v3 : Int32} {v4 : Int32} {v5 : Int32} {q1 : Nat} {n1 : Nat} {q2 : Nat} {n2 : Nat} {h : sn_H} {Q : Option Value → sn_H → Prop}
    (k1 : hK h v0 = (0, 3, 10))
    (k2 : hR h v0 7 = some q1)
    (k3 : hK h q1 = (1, 0, n1))
    (k4 : hR h v0 4 = some q2)
    (k5 : hK h q2 = (1, 0, n2))
    (H1 : (hG h v0 0) ≤ v5 → wpE 37 37 [some (.ref v0), none, some (.int v4), some (.int (v3 + nI 1)), none, none] [] h (0, 0) Q)
    (B2 : ¬ (hG h v0 0) ≤ v5 → vp_in v5 n1)
    (H3 : ¬ (hG h v0 0) ≤ v5 → ¬ (hG h q1 v5.toNatClampNeg) = nI 17 → wpE 37 51 [some (.ref v0), none, some (.int v2), some (.int v3), some (.int v4), some (.int (v5 + nI 1))] [] h (0, 0) Q)
    (B4 : ¬ (hG h v0 0) ≤ v5 → (hG h q1 v5.toNatClampNeg) = nI 17 → vp_in v5 n2)
    (H5 : ¬ (hG h v0 0) ≤ v5 → (hG h q1 v5.toNatClampNeg) = nI 17 → ((hG h q2 v5.toNatClampNeg) &&& v2) = 0 → wpE 37 51 [some (.ref v0), none, some (.int v2), some (.int v3), some (.int v4), some (.int (v5 + nI 1))] [] h (0, 0) Q)
    (H6 : ¬ (hG h v0 0) ≤ v5 → (hG h q1 v5.toNatClampNeg) = nI 17 → ¬ ((hG h q2 v5.toNatClampNeg) &&& v2) = 0 → wpE 37 51 [some (.ref v0), none, some (.int v2), some (.int v3), some (.int (v4 ||| (nI 1 <<< (v5 &&& 31)))), some (.int (v5 + nI 1))] [] (setG h q1 v5.toNatClampNeg v3) (0, 0) Q) :
    wpE 37 51 [some (.ref v0), none, some (.int v2), some (.int v3), some (.int v4), some (.int v5)] [] h (0, 0) Q :=
  vc_s (ct := fun pc => Nat.beq pc 2 || Nat.beq pc 37 || Nat.beq pc 51) 1000 false (And.intro k1 (And.intro (fun c1 => (And.intro (Nat.le_of_ble_eq_true rfl) (And.intro (Nat.le_of_ble_eq_true rfl) (@wpE_w _ _ [some (.ref v0), none, some (.int v4), some (.int (v3 + nI 1)), none, none] _ _ _ _ _ (show LeL [some (.ref v0), none, some (.int v4), some (.int (v3 + nI 1)), none, none] [some (.ref v0), none, some (.int v4), some (.int (v3 + nI 1)), some (.int v4), some (.int v5)] from (And.intro rfl (And.intro rfl (And.intro rfl trivial)))) (H1 c1))))) (fun c2 => (And.intro k1 (Exists.intro q1 (And.intro k2 (Exists.intro 0 (Exists.intro n1 (And.intro k3 (And.intro (B2 c2) (And.intro (fun c3 => (And.intro (Nat.le_of_ble_eq_true rfl) (H3 c2 c3))) (fun c4 => (And.intro k1 (Exists.intro q2 (And.intro k4 (Exists.intro 0 (Exists.intro n2 (And.intro k5 (And.intro (B4 c2 c4) (And.intro (fun c5 => (And.intro (Nat.le_of_ble_eq_true rfl) (H5 c2 c4 c5))) (fun c6 => (And.intro k1 (Exists.intro q1 (And.intro k2 (Exists.intro n1 (And.intro k3 (And.intro (B2 c2) (And.intro (Nat.le_of_ble_eq_true rfl) (And.intro (Nat.le_of_ble_eq_true rfl) (H6 c2 c4 c6))))))))))))))))))))))))))))))
/-- SnapshotRings$Graph.lowestBehind from 0 -/
theorem r_G_lowestBehind_0 {v0 : Nat} {v1 : Int32} {v2 : Int32} {h : sn_H} {Q : Option Value → sn_H → Prop}
    (H1 : wpE 38 2 [some (.ref v0), some (.int v1), some (.int v2), some (.int (nI 0))] [] h (0, 0) Q) :
    wpE 38 0 [some (.ref v0), some (.int v1), some (.int v2), none] [] h (0, 0) Q :=
  vc_s (ct := fun pc => Nat.beq pc 2) 1000 false (And.intro (Nat.le_of_ble_eq_true rfl) H1)
/-- SnapshotRings$Graph.lowestBehind from 2 -/
theorem r_G_lowestBehind_2 {v0 : Nat} {v1 : Int32} {v2 : Int32} {v3 : Int32} {q1 : Nat} {n1 : Nat} {q2 : Nat} {n2 : Nat} {h : sn_H} {Q : Option Value → sn_H → Prop}
    (k1 : hK h v0 = (0, 3, 10))
    (k2 : hR h v0 4 = some q1)
    (k3 : hK h q1 = (1, 0, n1))
    (k4 : hR h v0 7 = some q2)
    (k5 : hK h q2 = (1, 0, n2))
    (H1 : (hG h v0 0) ≤ v3 → Q (some (.int v1)) h)
    (B2 : ¬ (hG h v0 0) ≤ v3 → vp_in v1 n1)
    (H3 : ¬ (hG h v0 0) ≤ v3 → ¬ (((hG h q1 v1.toNatClampNeg) >>> (v3 &&& 31)) &&& nI 1) = nI 1 → wpE 38 2 [some (.ref v0), some (.int v1), some (.int v2), some (.int (v3 + nI 1))] [] h (0, 0) Q)
    (B4 : ¬ (hG h v0 0) ≤ v3 → (((hG h q1 v1.toNatClampNeg) >>> (v3 &&& 31)) &&& nI 1) = nI 1 → vp_in v3 n2)
    (H5 : ¬ (hG h v0 0) ≤ v3 → (((hG h q1 v1.toNatClampNeg) >>> (v3 &&& 31)) &&& nI 1) = nI 1 → ¬ (hG h q2 v3.toNatClampNeg) = v2 → wpE 38 2 [some (.ref v0), some (.int v1), some (.int v2), some (.int (v3 + nI 1))] [] h (0, 0) Q)
    (H6 : ¬ (hG h v0 0) ≤ v3 → (((hG h q1 v1.toNatClampNeg) >>> (v3 &&& 31)) &&& nI 1) = nI 1 → (hG h q2 v3.toNatClampNeg) = v2 → Q (some (.int v3)) h) :
    wpE 38 2 [some (.ref v0), some (.int v1), some (.int v2), some (.int v3)] [] h (0, 0) Q :=
  vc_s (ct := fun pc => Nat.beq pc 2) 1000 false (And.intro k1 (And.intro (fun c1 => (H1 c1)) (fun c2 => (And.intro k1 (Exists.intro q1 (And.intro k2 (Exists.intro 0 (Exists.intro n1 (And.intro k3 (And.intro (B2 c2) (And.intro (Nat.le_of_ble_eq_true rfl) (And.intro (Nat.le_of_ble_eq_true rfl) (And.intro (Nat.le_of_ble_eq_true rfl) (And.intro (Nat.le_of_ble_eq_true rfl) (r_X_hasBit_0 (v0 := (hG h q1 v1.toNatClampNeg)) (v1 := v3) (h := h) (fun c3 => (vc_s (ct := fun pc => Nat.beq pc 2) 1000 false (And.intro (fun c4 => (And.intro (Nat.le_of_ble_eq_true rfl) (H3 c2 c3))) (fun c4 => absurd c4 (by decide))))) (fun c5 => (vc_s (ct := fun pc => Nat.beq pc 2) 1000 false (And.intro (fun c6 => absurd c6 (by decide)) (fun c6 => (And.intro k1 (Exists.intro q2 (And.intro k4 (Exists.intro 0 (Exists.intro n2 (And.intro k5 (And.intro (B4 c2 c5) (And.intro (fun c7 => (And.intro (Nat.le_of_ble_eq_true rfl) (H5 c2 c5 c7))) (fun c8 => (H6 c2 c5 c8)))))))))))))))))))))))))))))
/-- SnapshotRings$Graph.tell from 0 -/
theorem r_G_tell_0 {v0 : Nat} {v1 : Int32} {q1 : Nat} {q2 : Nat} {n1 : Nat} {n2 : Nat} {h : sn_H} {Q : Option Value → sn_H → Prop}
    (k1 : hK h v0 = (0, 3, 10))
    (k2 : hR h v0 8 = some q1)
    (k3 : hR h v0 2 = some q2)
    (k4 : hK h q2 = (1, 0, n1))
    (k5 : hK h q1 = (1, 0, n2))
    (B1 : vp_in v1 n1)
    (B2 : vp_in (hG h v0 9) n2)
    (H3 : Q none (setG (setG h q1 (hG h v0 9).toNatClampNeg (hG h q2 v1.toNatClampNeg)) v0 9 ((hG (setG h q1 (hG h v0 9).toNatClampNeg (hG h q2 v1.toNatClampNeg)) v0 9) + nI 1))) :
    wpE 39 0 [some (.ref v0), some (.int v1)] [] h (0, 0) Q :=
  vc_s (ct := fun _ => false) 1000 false (And.intro k1 (Exists.intro q1 (And.intro k2 (And.intro k1 (And.intro k1 (Exists.intro q2 (And.intro k3 (Exists.intro 0 (Exists.intro n1 (And.intro k4 (And.intro B1 (Exists.intro n2 (And.intro k5 (And.intro B2 (And.intro rfl (And.intro k1 (And.intro k1 (And.intro rfl (And.intro rfl H3)))))))))))))))))))
/-- SnapshotRings$Graph.findRing from 0 -/
theorem r_G_findRing_0 {v0 : Nat} {h : sn_H} {Q : Option Value → sn_H → Prop}
    (k1 : hK h v0 = (0, 3, 10))
    (H1 : wpE 36 5 [some (.ref v0), none, none, none, none] [] (setG h v0 9 (nI 0)) (0, 0) Q) :
    wpE 36 0 [some (.ref v0), none, none, none, none] [] h (0, 0) Q :=
  vc_s (ct := fun pc => Nat.beq pc 5 || Nat.beq pc 27 || Nat.beq pc 74 || Nat.beq pc 95) 1000 false (And.intro k1 (And.intro rfl H1))
/-- SnapshotRings$Graph.findRing from 5 -/
theorem r_G_findRing_5 {v0 : Nat} {h : sn_H} {Q : Option Value → sn_H → Prop}
    (k1 : hK h v0 = (0, 3, 10))
    (H1 : 0 ≤ ((hG h v0 0) - nI 1) → wpE 37 0 [some (.ref v0), some (.int ((hG h v0 0) - nI 1)), none, none, none, none] [] h (0, 0) (fun r h => wpE 36 22 [some (.ref v0), some (.int ((hG h v0 0) - nI 1)), none, none, none] (r.toList ++ []) h (0, 0) Q))
    (H2 : ¬ 0 ≤ ((hG h v0 0) - nI 1) → Q none h) :
    wpE 36 5 [some (.ref v0), none, none, none, none] [] h (0, 0) Q :=
  vc_s (ct := fun pc => Nat.beq pc 5 || Nat.beq pc 27 || Nat.beq pc 74 || Nat.beq pc 95) 1000 false (And.intro k1 (And.intro (Nat.le_of_ble_eq_true rfl) (And.intro (fun c1 => (And.intro k1 (And.intro (Nat.le_of_ble_eq_true rfl) (And.intro (Nat.le_of_ble_eq_true rfl) (And.intro (Nat.le_of_ble_eq_true rfl) (And.intro (Nat.le_of_ble_eq_true rfl) (H1 c1))))))) (fun c2 => (And.intro rfl (H2 c2))))))
/-- SnapshotRings$Graph.findRing from 22 -/
theorem r_G_findRing_22 {v0 : Nat} {v1 : Int32} {h : sn_H} {Q : Option Value → sn_H → Prop}
    (H1 : wpE 36 27 [some (.ref v0), some (.int v1), some (.int (nI 17)), some (.int (nI 0)), none] [] h (0, 0) Q) :
    wpE 36 22 [some (.ref v0), some (.int v1), none, none, none] [] h (0, 0) Q :=
  vc_s (ct := fun pc => Nat.beq pc 5 || Nat.beq pc 27 || Nat.beq pc 74 || Nat.beq pc 95) 1000 false (And.intro (Nat.le_of_ble_eq_true rfl) (And.intro (Nat.le_of_ble_eq_true rfl) H1))
/-- SnapshotRings$Graph.findRing from 27 -/
theorem r_G_findRing_27 {v0 : Nat} {v1 : Int32} {v2 : Int32} {v3 : Int32} {q1 : Nat} {n1 : Nat} {q2 : Nat} {n2 : Nat} {h : sn_H} {Q : Option Value → sn_H → Prop}
    (k1 : hK h v0 = (0, 3, 10))
    (k2 : hR h v0 4 = some q1)
    (k3 : hK h q1 = (1, 0, n1))
    (k4 : hR h v0 7 = some q2)
    (k5 : hK h q2 = (1, 0, n2))
    (H1 : v1 ≤ v3 → ¬ v2 = nI 17 → wpE 36 74 [some (.ref v0), none, none, some (.int v1), some (.int v2)] [] h (0, 0) Q)
    (H2 : v1 ≤ v3 → v2 = nI 17 → Q none h)
    (B3 : ¬ v1 ≤ v3 → vp_in v1 n1)
    (H4 : ¬ v1 ≤ v3 → ¬ (((hG h q1 v1.toNatClampNeg) >>> (v3 &&& 31)) &&& nI 1) = nI 1 → wpE 36 27 [some (.ref v0), some (.int v1), some (.int v2), some (.int (v3 + nI 1)), none] [] h (0, 0) Q)
    (B5 : ¬ v1 ≤ v3 → (((hG h q1 v1.toNatClampNeg) >>> (v3 &&& 31)) &&& nI 1) = nI 1 → vp_in v3 n2)
    (H6 : ¬ v1 ≤ v3 → (((hG h q1 v1.toNatClampNeg) >>> (v3 &&& 31)) &&& nI 1) = nI 1 → wpE 36 27 [some (.ref v0), some (.int v1), some (.int (if (hG h q2 v3.toNatClampNeg) < v2 then (hG h q2 v3.toNatClampNeg) else v2)), some (.int (v3 + nI 1)), none] [] h (0, 0) Q) :
    wpE 36 27 [some (.ref v0), some (.int v1), some (.int v2), some (.int v3), none] [] h (0, 0) Q :=
  vc_s (ct := fun pc => Nat.beq pc 5 || Nat.beq pc 27 || Nat.beq pc 74 || Nat.beq pc 95) 1000 false (And.intro (fun c1 => (And.intro (fun c2 => (And.intro (Nat.le_of_ble_eq_true rfl) (And.intro (Nat.le_of_ble_eq_true rfl) (@wpE_w _ _ [some (.ref v0), none, none, some (.int v1), some (.int v2)] _ _ _ _ _ (show LeL [some (.ref v0), none, none, some (.int v1), some (.int v2)] [some (.ref v0), some (.int v1), some (.int v2), some (.int v1), some (.int v2)] from (And.intro rfl (And.intro rfl (And.intro rfl trivial)))) (H1 c1 c2))))) (fun c3 => (And.intro rfl (H2 c1 c3))))) (fun c4 => (And.intro k1 (Exists.intro q1 (And.intro k2 (Exists.intro 0 (Exists.intro n1 (And.intro k3 (And.intro (B3 c4) (And.intro (Nat.le_of_ble_eq_true rfl) (And.intro (Nat.le_of_ble_eq_true rfl) (And.intro (Nat.le_of_ble_eq_true rfl) (And.intro (Nat.le_of_ble_eq_true rfl) (r_X_hasBit_0 (v0 := (hG h q1 v1.toNatClampNeg)) (v1 := v3) (h := h) (fun c5 => (vc_s (ct := fun pc => Nat.beq pc 5 || Nat.beq pc 27 || Nat.beq pc 74 || Nat.beq pc 95) 1000 false (And.intro (fun c6 => (And.intro (Nat.le_of_ble_eq_true rfl) (H4 c4 c5))) (fun c6 => absurd c6 (by decide))))) (fun c7 => (vc_s (ct := fun pc => Nat.beq pc 5 || Nat.beq pc 27 || Nat.beq pc 74 || Nat.beq pc 95) 1000 false (And.intro (fun c8 => absurd c8 (by decide)) (fun c8 => (And.intro k1 (Exists.intro q2 (And.intro k4 (Exists.intro 0 (Exists.intro n2 (And.intro k5 (And.intro (B5 c4 c7) (And.intro (Nat.le_of_ble_eq_true rfl) (And.intro (Nat.le_of_ble_eq_true rfl) (And.intro (Nat.le_of_ble_eq_true rfl) (H6 c4 c7)))))))))))))))))))))))))))))
/-- SnapshotRings$Graph.findRing from 74 -/
theorem r_G_findRing_74 {v0 : Nat} {v3 : Int32} {v4 : Int32} {h : sn_H} {Q : Option Value → sn_H → Prop}
    (k1 : hK h v0 = (0, 3, 10))
    (H1 : v4 ≤ 0 → Q none h)
    (H2 : ¬ v4 ≤ 0 → wpE 38 0 [some (.ref v0), some (.int v3), some (.int v4), none] [] h (0, 0) (fun r h => wpE 36 86 [some (.ref v0), none, none, none, some (.int v4)] (r.toList ++ []) h (0, 0) Q)) :
    wpE 36 74 [some (.ref v0), none, none, some (.int v3), some (.int v4)] [] h (0, 0) Q :=
  vc_s (ct := fun pc => Nat.beq pc 5 || Nat.beq pc 27 || Nat.beq pc 74 || Nat.beq pc 95) 1000 false (And.intro (fun c1 => (And.intro rfl (H1 c1))) (fun c2 => (And.intro k1 (And.intro (Nat.le_of_ble_eq_true rfl) (And.intro (Nat.le_of_ble_eq_true rfl) (And.intro (Nat.le_of_ble_eq_true rfl) (And.intro (Nat.le_of_ble_eq_true rfl) (wpE_m (fun _ _ HH => @wpE_w _ _ [some (.ref v0), none, none, none, some (.int v4)] _ _ _ _ _ (show LeL [some (.ref v0), none, none, none, some (.int v4)] [some (.ref v0), none, none, some (.int v3), some (.int v4)] from (And.intro rfl (And.intro rfl trivial))) HH) (H2 c2)))))))))
/-- SnapshotRings$Graph.findRing from 86 -/
theorem r_G_findRing_86 {v0 : Nat} {v4 : Int32} {s0 : Int32} {q1 : Nat} {q2 : Nat} {n1 : Nat} {n2 : Nat} {h : sn_H} {Q : Option Value → sn_H → Prop}
    (k1 : hK h v0 = (0, 3, 10))
    (k2 : hR h v0 8 = some q1)
    (k3 : hR h v0 2 = some q2)
    (k4 : hK h q2 = (1, 0, n1))
    (k5 : hK h q1 = (1, 0, n2))
    (B1 : vp_in s0 n1)
    (B2 : vp_in (hG h v0 9) n2)
    (H3 : wpE 36 95 [some (.ref v0), none, none, some (.int s0), some (.int (v4 + -(nI 1)))] [] (setG (setG h q1 (hG h v0 9).toNatClampNeg (hG h q2 s0.toNatClampNeg)) v0 9 ((hG (setG h q1 (hG h v0 9).toNatClampNeg (hG h q2 s0.toNatClampNeg)) v0 9) + nI 1)) (0, 0) Q) :
    wpE 36 86 [some (.ref v0), none, none, none, some (.int v4)] [.int s0] h (0, 0) Q :=
  vc_s (ct := fun pc => Nat.beq pc 5 || Nat.beq pc 27 || Nat.beq pc 74 || Nat.beq pc 95) 1000 false (And.intro (Nat.le_of_ble_eq_true rfl) (And.intro k1 (And.intro (Nat.le_of_ble_eq_true rfl) (And.intro (Nat.le_of_ble_eq_true rfl) (And.intro (Nat.le_of_ble_eq_true rfl) (And.intro (Nat.le_of_ble_eq_true rfl) (r_G_tell_0 (v0 := v0) (v1 := s0) (q1 := q1) (q2 := q2) (n1 := n1) (n2 := n2) (h := h) k1 k2 k3 k4 k5 (B1) (B2) ((vc_s (ct := fun pc => Nat.beq pc 5 || Nat.beq pc 27 || Nat.beq pc 74 || Nat.beq pc 95) 1000 false (And.intro (Nat.le_of_ble_eq_true rfl) H3))))))))))
/-- SnapshotRings$Graph.findRing from 95 -/
theorem r_G_findRing_95 {v0 : Nat} {v3 : Int32} {v4 : Int32} {h : sn_H} {Q : Option Value → sn_H → Prop}
    (H1 : wpE 36 74 [some (.ref v0), none, none, some (.int v3), some (.int v4)] [] h (0, 0) Q) :
    wpE 36 95 [some (.ref v0), none, none, some (.int v3), some (.int v4)] [] h (0, 0) Q :=
  vc_s (ct := fun pc => Nat.beq pc 5 || Nat.beq pc 27 || Nat.beq pc 74 || Nat.beq pc 95) 1000 false H1
/-- SnapshotRings$Graph.hasPivot from 0 -/
theorem r_G_hasPivot_0 {v0 : Nat} {h : sn_H} {Q : Option Value → sn_H → Prop}
    (k1 : hK h v0 = (0, 3, 10))
    (H1 : 0 ≤ ((hG h v0 0) - nI 1) → wpE 40 20 [some (.ref v0), some (.int ((hG h v0 0) - nI 1)), some (.int (nI 0)), some (.int (nI 0)), some (.int (nI 0)), none] [] h (0, 0) Q)
    (H2 : ¬ 0 ≤ ((hG h v0 0) - nI 1) → Q (some (.int (nI 0))) h) :
    wpE 40 0 [some (.ref v0), none, none, none, none, none] [] h (0, 0) Q :=
  vc_s (ct := fun pc => Nat.beq pc 20 || Nat.beq pc 93) 1000 false (And.intro k1 (And.intro (Nat.le_of_ble_eq_true rfl) (And.intro (fun c1 => (And.intro (Nat.le_of_ble_eq_true rfl) (And.intro (Nat.le_of_ble_eq_true rfl) (And.intro (Nat.le_of_ble_eq_true rfl) (H1 c1))))) (fun c2 => (And.intro rfl (H2 c2))))))
/-- SnapshotRings$Graph.hasPivot from 20 -/
theorem r_G_hasPivot_20 {v0 : Nat} {v1 : Int32} {v2 : Int32} {v3 : Int32} {v4 : Int32} {q1 : Nat} {n1 : Nat} {h : sn_H} {Q : Option Value → sn_H → Prop}
    (k1 : hK h v0 = (0, 3, 10))
    (k2 : hR h v0 5 = some q1)
    (k3 : hK h q1 = (1, 0, n1))
    (B1 : (hG h v0 0) ≤ v4 → ¬ (((v2 &&& v3) >>> (v1 &&& 31)) &&& nI 1) = nI 1 → vp_in v1 n1)
    (H2 : (hG h v0 0) ≤ v4 → ¬ (((v2 &&& v3) >>> (v1 &&& 31)) &&& nI 1) = nI 1 → ((hG h q1 v1.toNatClampNeg) &&& (v2 &&& v3)) = 0 → wpE 40 93 [some (.ref v0), some (.int v1), none, none, some (.int (v2 &&& v3)), some (.int (nI 0))] [] h (0, 0) Q)
    (H3 : (hG h v0 0) ≤ v4 → ¬ (((v2 &&& v3) >>> (v1 &&& 31)) &&& nI 1) = nI 1 → ¬ ((hG h q1 v1.toNatClampNeg) &&& (v2 &&& v3)) = 0 → Q (some (.int (nI 1))) h)
    (H4 : (hG h v0 0) ≤ v4 → (((v2 &&& v3) >>> (v1 &&& 31)) &&& nI 1) = nI 1 → Q (some (.int (nI 1))) h)
    (B5 : ¬ (hG h v0 0) ≤ v4 → vp_in v4 n1)
    (H6 : ¬ (hG h v0 0) ≤ v4 → (hG h q1 v4.toNatClampNeg) = 0 → wpE 40 20 [some (.ref v0), some (.int v1), some (.int (v2 ||| (hG h q1 v4.toNatClampNeg))), some (.int v3), some (.int (v4 + nI 1)), none] [] h (0, 0) Q)
    (H7 : ¬ (hG h v0 0) ≤ v4 → ¬ (hG h q1 v4.toNatClampNeg) = 0 → wpE 40 20 [some (.ref v0), some (.int v1), some (.int (v2 ||| (hG h q1 v4.toNatClampNeg))), some (.int (v3 ||| (nI 1 <<< (v4 &&& 31)))), some (.int (v4 + nI 1)), none] [] h (0, 0) Q) :
    wpE 40 20 [some (.ref v0), some (.int v1), some (.int v2), some (.int v3), some (.int v4), none] [] h (0, 0) Q :=
  vc_s (ct := fun pc => Nat.beq pc 20 || Nat.beq pc 93) 1000 false (And.intro k1 (And.intro (fun c1 => (And.intro (Nat.le_of_ble_eq_true rfl) (And.intro (Nat.le_of_ble_eq_true rfl) (And.intro (Nat.le_of_ble_eq_true rfl) (And.intro (Nat.le_of_ble_eq_true rfl) (And.intro (Nat.le_of_ble_eq_true rfl) (r_X_hasBit_0 (v0 := (v2 &&& v3)) (v1 := v1) (h := h) (fun c2 => (vc_s (ct := fun pc => Nat.beq pc 20 || Nat.beq pc 93) 1000 false (And.intro (fun c3 => absurd c3 (by decide)) (fun c3 => (And.intro k1 (Exists.intro q1 (And.intro k2 (Exists.intro 0 (Exists.intro n1 (And.intro k3 (And.intro (B1 c1 c2) (And.intro (fun c4 => (And.intro (Nat.le_of_ble_eq_true rfl) (@wpE_w _ _ [some (.ref v0), some (.int v1), none, none, some (.int (v2 &&& v3)), some (.int (nI 0))] _ _ _ _ _ (show LeL [some (.ref v0), some (.int v1), none, none, some (.int (v2 &&& v3)), some (.int (nI 0))] [some (.ref v0), some (.int v1), some (.int v2), some (.int v3), some (.int (v2 &&& v3)), some (.int (nI 0))] from (And.intro rfl (And.intro rfl (And.intro rfl (And.intro rfl trivial))))) (H2 c1 c2 c4)))) (fun c5 => (And.intro rfl (H3 c1 c2 c5))))))))))))))) (fun c6 => (vc_s (ct := fun pc => Nat.beq pc 20 || Nat.beq pc 93) 1000 false (And.intro (fun c7 => (And.intro rfl (H4 c1 c6))) (fun c7 => absurd c7 (by decide)))))))))))) (fun c8 => (And.intro k1 (Exists.intro q1 (And.intro k2 (Exists.intro 0 (Exists.intro n1 (And.intro k3 (And.intro (B5 c8) (And.intro (Nat.le_of_ble_eq_true rfl) (And.intro k1 (Exists.intro q1 (And.intro k2 (Exists.intro 0 (Exists.intro n1 (And.intro k3 (And.intro (B5 c8) (And.intro (fun c9 => (And.intro (Nat.le_of_ble_eq_true rfl) (H6 c8 c9))) (fun c10 => (And.intro (Nat.le_of_ble_eq_true rfl) (And.intro (Nat.le_of_ble_eq_true rfl) (H7 c8 c10)))))))))))))))))))))))
/-- SnapshotRings$Graph.hasPivot from 93 -/
theorem r_G_hasPivot_93 {v0 : Nat} {v1 : Int32} {v4 : Int32} {v5 : Int32} {q1 : Nat} {n1 : Nat} {h : sn_H} {Q : Option Value → sn_H → Prop}
    (k1 : hK h v0 = (0, 3, 10))
    (k2 : hR h v0 5 = some q1)
    (k3 : hK h q1 = (1, 0, n1))
    (H1 : v1 ≤ v5 → Q (some (.int (nI 0))) h)
    (H2 : ¬ v1 ≤ v5 → ¬ ((v4 >>> (v5 &&& 31)) &&& nI 1) = nI 1 → wpE 40 93 [some (.ref v0), some (.int v1), none, none, some (.int v4), some (.int (v5 + nI 1))] [] h (0, 0) Q)
    (B3 : ¬ v1 ≤ v5 → ((v4 >>> (v5 &&& 31)) &&& nI 1) = nI 1 → vp_in v5 n1)
    (H4 : ¬ v1 ≤ v5 → ((v4 >>> (v5 &&& 31)) &&& nI 1) = nI 1 → ¬ (((hG h q1 v5.toNatClampNeg) >>> (v1 &&& 31)) &&& nI 1) = nI 1 → wpE 40 93 [some (.ref v0), some (.int v1), none, none, some (.int v4), some (.int (v5 + nI 1))] [] h (0, 0) Q)
    (H5 : ¬ v1 ≤ v5 → ((v4 >>> (v5 &&& 31)) &&& nI 1) = nI 1 → (((hG h q1 v5.toNatClampNeg) >>> (v1 &&& 31)) &&& nI 1) = nI 1 → Q (some (.int (nI 1))) h) :
    wpE 40 93 [some (.ref v0), some (.int v1), none, none, some (.int v4), some (.int v5)] [] h (0, 0) Q :=
  vc_s (ct := fun pc => Nat.beq pc 20 || Nat.beq pc 93) 1000 false (And.intro (fun c1 => (And.intro rfl (H1 c1))) (fun c2 => (And.intro (Nat.le_of_ble_eq_true rfl) (And.intro (Nat.le_of_ble_eq_true rfl) (And.intro (Nat.le_of_ble_eq_true rfl) (And.intro (Nat.le_of_ble_eq_true rfl) (r_X_hasBit_0 (v0 := v4) (v1 := v5) (h := h) (fun c3 => (vc_s (ct := fun pc => Nat.beq pc 20 || Nat.beq pc 93) 1000 false (And.intro (fun c4 => (And.intro (Nat.le_of_ble_eq_true rfl) (H2 c2 c3))) (fun c4 => absurd c4 (by decide))))) (fun c5 => (vc_s (ct := fun pc => Nat.beq pc 20 || Nat.beq pc 93) 1000 false (And.intro (fun c6 => absurd c6 (by decide)) (fun c6 => (And.intro k1 (Exists.intro q1 (And.intro k2 (Exists.intro 0 (Exists.intro n1 (And.intro k3 (And.intro (B3 c2 c5) (And.intro (Nat.le_of_ble_eq_true rfl) (And.intro (Nat.le_of_ble_eq_true rfl) (And.intro (Nat.le_of_ble_eq_true rfl) (And.intro (Nat.le_of_ble_eq_true rfl) (r_X_hasBit_0 (v0 := (hG h q1 v5.toNatClampNeg)) (v1 := v1) (h := h) (fun c7 => (vc_s (ct := fun pc => Nat.beq pc 20 || Nat.beq pc 93) 1000 false (And.intro (fun c8 => (And.intro (Nat.le_of_ble_eq_true rfl) (H4 c2 c5 c7))) (fun c8 => absurd c8 (by decide))))) (fun c9 => (vc_s (ct := fun pc => Nat.beq pc 20 || Nat.beq pc 93) 1000 false (And.intro (fun c10 => absurd c10 (by decide)) (fun c10 => (And.intro rfl (H5 c2 c5 c9)))))))))))))))))))))))))))))
/-- SnapshotRings$State.free from 0 -/
theorem r_S_free_0 {v0 : Nat} {v1 : Int32} {h : sn_H} {Q : Option Value → sn_H → Prop}
    (k1 : hK h v0 = (0, 1, 14))
    (H1 : Q none (setG h v0 3 ((hG h v0 3) &&& ((nI 1 <<< (v1 &&& 31)) ^^^ -(nI 1))))) :
    wpE 42 0 [some (.ref v0), some (.int v1)] [] h (0, 0) Q :=
  vc_s (ct := fun _ => false) 1000 false (And.intro rfl (And.intro k1 (And.intro k1 (And.intro rfl (And.intro rfl H1)))))
/-- SnapshotRings$State.refuse from 0 -/
theorem r_S_refuse_0 {v0 : Nat} {v1 : Int32} {v2 : Int32} {q1 : Nat} {n1 : Nat} {h : sn_H} {Q : Option Value → sn_H → Prop}
    (k1 : hK h v0 = (0, 1, 14))
    (k2 : hR h v0 4 = some q1)
    (k3 : hK h q1 = (1, 0, n1))
    (B1 : vp_in v2 n1)
    (H2 : Q none (setG (setG h v0 3 ((hG h v0 3) &&& ((nI 1 <<< (v1 &&& 31)) ^^^ -(nI 1)))) q1 v2.toNatClampNeg ((hG (setG h v0 3 ((hG h v0 3) &&& ((nI 1 <<< (v1 &&& 31)) ^^^ -(nI 1)))) q1 v2.toNatClampNeg) + nI 1))) :
    wpE 41 0 [some (.ref v0), some (.int v1), some (.int v2)] [] h (0, 0) Q :=
  vc_s (ct := fun _ => false) 1000 false (And.intro k1 (And.intro (Nat.le_of_ble_eq_true rfl) (And.intro (Nat.le_of_ble_eq_true rfl) (And.intro (Nat.le_of_ble_eq_true rfl) (And.intro (Nat.le_of_ble_eq_true rfl) (r_S_free_0 (v0 := v0) (v1 := v1) (h := h) k1 ((vc_s (ct := fun _ => false) 1000 false (And.intro k1 (Exists.intro q1 (And.intro k2 (And.intro rfl (And.intro rfl (Exists.intro 0 (Exists.intro n1 (And.intro k3 (And.intro B1 (Exists.intro n1 (And.intro k3 (And.intro B1 (And.intro rfl H2)))))))))))))))))))))
/-- SnapshotRings$State.keepCommit from 0 -/
theorem r_S_keepCommit_0 {v0 : Nat} {v1 : Int32} {h : sn_H} {Q : Option Value → sn_H → Prop}
    (k1 : hK h v0 = (0, 1, 14))
    (H1 : wpE 43 15 [some (.ref v0), some (.int v1), none, none] [] (setG (setG h v0 3 ((hG h v0 3) &&& ((nI 1 <<< (v1 &&& 31)) ^^^ -(nI 1)))) v0 1 ((hG (setG h v0 3 ((hG h v0 3) &&& ((nI 1 <<< (v1 &&& 31)) ^^^ -(nI 1)))) v0 1) + nI 1)) (0, 0) Q) :
    wpE 43 0 [some (.ref v0), some (.int v1), none, none] [] h (0, 0) Q :=
  vc_s (ct := fun pc => Nat.beq pc 15 || Nat.beq pc 48 || Nat.beq pc 83 || Nat.beq pc 129) 1000 false (And.intro k1 (And.intro (Nat.le_of_ble_eq_true rfl) (And.intro (Nat.le_of_ble_eq_true rfl) (And.intro (Nat.le_of_ble_eq_true rfl) (And.intro (Nat.le_of_ble_eq_true rfl) (r_S_free_0 (v0 := v0) (v1 := v1) (h := h) k1 ((vc_s (ct := fun pc => Nat.beq pc 15 || Nat.beq pc 48 || Nat.beq pc 83 || Nat.beq pc 129) 1000 false (And.intro rfl (And.intro k1 (And.intro k1 (And.intro rfl H1))))))))))))
/-- SnapshotRings$State.keepCommit from 15 -/
theorem r_S_keepCommit_15 {v0 : Nat} {v1 : Int32} {q1 : Nat} {n1 : Nat} {q2 : Nat} {n2 : Nat} {h : sn_H} {Q : Option Value → sn_H → Prop}
    (k1 : hK h v0 = (0, 1, 14))
    (k2 : hR h v0 9 = some q1)
    (k3 : hK h q1 = (1, 0, n1))
    (k4 : hR h v0 10 = some q2)
    (k5 : hK h q2 = (1, 0, n2))
    (B1 : vp_in v1 n1)
    (B2 : vp_in (nI 8 + (((hG h v0 1) - nI 1) &&& nI 15)) n1)
    (B3 : vp_in v1 n2)
    (B4 : vp_in (nI 8 + (((hG h v0 1) - nI 1) &&& nI 15)) n2)
    (H5 : wpE 43 48 [some (.ref v0), some (.int v1), some (.int (nI 8 + (((hG h v0 1) - nI 1) &&& nI 15))), none] [] (setG (setG h q1 (nI 8 + (((hG h v0 1) - nI 1) &&& nI 15)).toNatClampNeg (hG h q1 v1.toNatClampNeg)) q2 (nI 8 + (((hG h v0 1) - nI 1) &&& nI 15)).toNatClampNeg (hG (setG h q1 (nI 8 + (((hG h v0 1) - nI 1) &&& nI 15)).toNatClampNeg (hG h q1 v1.toNatClampNeg)) q2 v1.toNatClampNeg)) (0, 0) Q) :
    wpE 43 15 [some (.ref v0), some (.int v1), none, none] [] h (0, 0) Q :=
  vc_s (ct := fun pc => Nat.beq pc 15 || Nat.beq pc 48 || Nat.beq pc 83 || Nat.beq pc 129) 1000 false (And.intro k1 (And.intro k1 (And.intro (Nat.le_of_ble_eq_true rfl) (And.intro (Nat.le_of_ble_eq_true rfl) (And.intro (Nat.le_of_ble_eq_true rfl) (And.intro (Nat.le_of_ble_eq_true rfl) (r_S_rowOfCommit_0 (v0 := v0) (v1 := (hG h v0 1)) (h := h) ((vc_s (ct := fun pc => Nat.beq pc 15 || Nat.beq pc 48 || Nat.beq pc 83 || Nat.beq pc 129) 1000 false (And.intro (Nat.le_of_ble_eq_true rfl) (And.intro k1 (Exists.intro q1 (And.intro k2 (And.intro k1 (Exists.intro q1 (And.intro k2 (Exists.intro 0 (Exists.intro n1 (And.intro k3 (And.intro B1 (Exists.intro n1 (And.intro k3 (And.intro B2 (And.intro k1 (Exists.intro q2 (And.intro k4 (And.intro k1 (Exists.intro q2 (And.intro k4 (Exists.intro 0 (Exists.intro n2 (And.intro k5 (And.intro B3 (Exists.intro n2 (And.intro k5 (And.intro B4 H5))))))))))))))))))))))))))))))))))))
/-- SnapshotRings$State.keepCommit from 48 -/
theorem r_S_keepCommit_48 {v0 : Nat} {v1 : Int32} {v2 : Int32} {q1 : Nat} {n1 : Nat} {q2 : Nat} {n2 : Nat} {n3 : Nat} {n4 : Nat} {h : sn_H} {Q : Option Value → sn_H → Prop}
    (k1 : hK h v0 = (0, 1, 14))
    (k2 : hR h v0 11 = some q1)
    (k3 : hK h q1 = (1, 0, n1))
    (k4 : hR h v0 12 = some q2)
    (k5 : hK h q2 = (1, 0, n2))
    (B1 : vp_in v1 n1)
    (B2 : vp_in v2 n1)
    (B3 : (v1 * nI 12) = nI n3)
    (B4 : n3 < 65536)
    (B5 : (v2 * nI 12) = nI n4)
    (B6 : n4 < 65536)
    (B7 : n3 + 12 ≤ n2)
    (B8 : n4 + 12 ≤ n2)
    (H9 : wpE 43 83 [some (.ref v0), some (.int v1), none, some (.int (nI 0))] [] (cpG (setG h q1 v2.toNatClampNeg (hG h q1 v1.toNatClampNeg)) q2 n3 q2 n4 12) (0, 0) Q) :
    wpE 43 48 [some (.ref v0), some (.int v1), some (.int v2), none] [] h (0, 0) Q :=
  vc_s (ct := fun pc => Nat.beq pc 15 || Nat.beq pc 48 || Nat.beq pc 83 || Nat.beq pc 129) 1000 false (And.intro k1 (Exists.intro q1 (And.intro k2 (And.intro k1 (Exists.intro q1 (And.intro k2 (Exists.intro 0 (Exists.intro n1 (And.intro k3 (And.intro B1 (Exists.intro n1 (And.intro k3 (And.intro B2 (And.intro k1 (Exists.intro q2 (And.intro k4 (And.intro k1 (Exists.intro q2 (And.intro k4 (Exists.intro n3 (Exists.intro n4 (Exists.intro 12 (Exists.intro n2 (Exists.intro n2 (And.intro B3 (And.intro B5 (And.intro rfl (And.intro B4 (And.intro B6 (And.intro (Nat.le_of_ble_eq_true rfl) (And.intro k5 (And.intro k5 (And.intro B7 (And.intro B8 (And.intro (Nat.le_of_ble_eq_true rfl) (And.intro (Nat.le_of_ble_eq_true rfl) (@wpE_w _ _ [some (.ref v0), some (.int v1), none, some (.int (nI 0))] _ _ _ _ _ (show LeL [some (.ref v0), some (.int v1), none, some (.int (nI 0))] [some (.ref v0), some (.int v1), some (.int v2), some (.int (nI 0))] from (And.intro rfl (And.intro rfl (And.intro rfl trivial)))) H9)))))))))))))))))))))))))))))))))))))
/-- SnapshotRings$State.keepCommit from 83 -/
theorem r_S_keepCommit_83 {v0 : Nat} {v1 : Int32} {v3 : Int32} {q1 : Nat} {n1 : Nat} {q2 : Nat} {q3 : Nat} {n2 : Nat} {n3 : Nat} {q4 : Nat} {n4 : Nat} {h : sn_H} {Q : Option Value → sn_H → Prop}
    (k1 : hK h v0 = (0, 1, 14))
    (k2 : hR h v0 11 = some q1)
    (k3 : hK h q1 = (1, 0, n1))
    (k4 : hR h v0 7 = some q2)
    (k5 : hR h v0 13 = some q3)
    (k6 : hK h q3 = (1, 0, n2))
    (k7 : hK h q2 = (1, 0, n3))
    (k8 : hR h v0 8 = some q4)
    (k9 : hK h q4 = (1, 0, n4))
    (H1 : nI 12 ≤ v3 → Q (some (.int (hG h v0 1))) h)
    (B2 : ¬ nI 12 ≤ v3 → vp_in v1 n1)
    (H3 : ¬ nI 12 ≤ v3 → ¬ (((hG h q1 v1.toNatClampNeg) >>> (v3 &&& 31)) &&& nI 1) = nI 1 → wpE 43 129 [some (.ref v0), some (.int v1), none, some (.int v3)] [] h (0, 0) Q)
    (B4 : ¬ nI 12 ≤ v3 → (((hG h q1 v1.toNatClampNeg) >>> (v3 &&& 31)) &&& nI 1) = nI 1 → vp_in ((v1 * nI 12) + v3) n2)
    (B5 : ¬ nI 12 ≤ v3 → (((hG h q1 v1.toNatClampNeg) >>> (v3 &&& 31)) &&& nI 1) = nI 1 → vp_in v3 n3)
    (B6 : ¬ nI 12 ≤ v3 → (((hG h q1 v1.toNatClampNeg) >>> (v3 &&& 31)) &&& nI 1) = nI 1 → vp_in v3 n4)
    (H7 : ¬ nI 12 ≤ v3 → (((hG h q1 v1.toNatClampNeg) >>> (v3 &&& 31)) &&& nI 1) = nI 1 → wpE 43 129 [some (.ref v0), some (.int v1), none, some (.int v3)] [] (setG (setG h q2 v3.toNatClampNeg (hG h q3 ((v1 * nI 12) + v3).toNatClampNeg)) q4 v3.toNatClampNeg (hG (setG h q2 v3.toNatClampNeg (hG h q3 ((v1 * nI 12) + v3).toNatClampNeg)) v0 1)) (0, 0) Q) :
    wpE 43 83 [some (.ref v0), some (.int v1), none, some (.int v3)] [] h (0, 0) Q :=
  vc_s (ct := fun pc => Nat.beq pc 15 || Nat.beq pc 48 || Nat.beq pc 83 || Nat.beq pc 129) 1000 false (And.intro (fun c1 => (And.intro k1 (H1 c1))) (fun c2 => (And.intro k1 (Exists.intro q1 (And.intro k2 (Exists.intro 0 (Exists.intro n1 (And.intro k3 (And.intro (B2 c2) (And.intro (Nat.le_of_ble_eq_true rfl) (And.intro (Nat.le_of_ble_eq_true rfl) (And.intro (Nat.le_of_ble_eq_true rfl) (And.intro (Nat.le_of_ble_eq_true rfl) (r_X_hasBit_0 (v0 := (hG h q1 v1.toNatClampNeg)) (v1 := v3) (h := h) (fun c3 => (vc_s (ct := fun pc => Nat.beq pc 15 || Nat.beq pc 48 || Nat.beq pc 83 || Nat.beq pc 129) 1000 false (And.intro (fun c4 => (H3 c2 c3)) (fun c4 => absurd c4 (by decide))))) (fun c5 => (vc_s (ct := fun pc => Nat.beq pc 15 || Nat.beq pc 48 || Nat.beq pc 83 || Nat.beq pc 129) 1000 false (And.intro (fun c6 => absurd c6 (by decide)) (fun c6 => (And.intro k1 (Exists.intro q2 (And.intro k4 (And.intro k1 (Exists.intro q3 (And.intro k5 (Exists.intro 0 (Exists.intro n2 (And.intro k6 (And.intro (B4 c2 c5) (Exists.intro n3 (And.intro k7 (And.intro (B5 c2 c5) (And.intro k1 (Exists.intro q4 (And.intro k8 (And.intro k1 (Exists.intro n4 (And.intro k9 (And.intro (B6 c2 c5) (H7 c2 c5)))))))))))))))))))))))))))))))))))))))
/-- SnapshotRings$State.keepCommit from 129 -/
theorem r_S_keepCommit_129 {v0 : Nat} {v1 : Int32} {v3 : Int32} {h : sn_H} {Q : Option Value → sn_H → Prop}
    (H1 : wpE 43 83 [some (.ref v0), some (.int v1), none, some (.int (v3 + nI 1))] [] h (0, 0) Q) :
    wpE 43 129 [some (.ref v0), some (.int v1), none, some (.int v3)] [] h (0, 0) Q :=
  vc_s (ct := fun pc => Nat.beq pc 15 || Nat.beq pc 48 || Nat.beq pc 83 || Nat.beq pc 129) 1000 false (And.intro (Nat.le_of_ble_eq_true rfl) H1)
/-- SnapshotRings$State.giveUp from 0 -/
theorem r_S_giveUp_0 {v0 : Nat} {v1 : Int32} {h : sn_H} {Q : Option Value → sn_H → Prop}
    (k1 : hK h v0 = (0, 1, 14))
    (H1 : wpE 45 15 [some (.ref v0), some (.int v1)] [] (setG (setG h v0 3 ((hG h v0 3) &&& ((nI 1 <<< (v1 &&& 31)) ^^^ -(nI 1)))) v0 2 ((hG (setG h v0 3 ((hG h v0 3) &&& ((nI 1 <<< (v1 &&& 31)) ^^^ -(nI 1)))) v0 2) + nI 1)) (0, 0) Q) :
    wpE 45 0 [some (.ref v0), some (.int v1)] [] h (0, 0) Q :=
  vc_s (ct := fun pc => Nat.beq pc 15) 1000 false (And.intro k1 (And.intro (Nat.le_of_ble_eq_true rfl) (And.intro (Nat.le_of_ble_eq_true rfl) (And.intro (Nat.le_of_ble_eq_true rfl) (And.intro (Nat.le_of_ble_eq_true rfl) (r_S_free_0 (v0 := v0) (v1 := v1) (h := h) k1 ((vc_s (ct := fun pc => Nat.beq pc 15) 1000 false (And.intro rfl (And.intro k1 (And.intro k1 (And.intro rfl H1))))))))))))
/-- SnapshotRings$State.giveUp from 15 -/
theorem r_S_giveUp_15 {v0 : Nat} {v1 : Int32} {q1 : Nat} {n1 : Nat} {h : sn_H} {Q : Option Value → sn_H → Prop}
    (k1 : hK h v0 = (0, 1, 14))
    (k2 : hR h v0 11 = some q1)
    (k3 : hK h q1 = (1, 0, n1))
    (B1 : vp_in v1 n1)
    (H2 : wpE 24 0 [some (.int (hG h q1 v1.toNatClampNeg))] [] h (0, 0) (fun r h => wpE 45 24 [none, none] (r.toList ++ []) h (0, 0) Q)) :
    wpE 45 15 [some (.ref v0), some (.int v1)] [] h (0, 0) Q :=
  vc_s (ct := fun pc => Nat.beq pc 15) 1000 false (And.intro k1 (Exists.intro q1 (And.intro k2 (Exists.intro 0 (Exists.intro n1 (And.intro k3 (And.intro B1 (And.intro (Nat.le_of_ble_eq_true rfl) (And.intro (Nat.le_of_ble_eq_true rfl) (And.intro (Nat.le_of_ble_eq_true rfl) (And.intro (Nat.le_of_ble_eq_true rfl) (wpE_m (fun _ _ HH => @wpE_w _ _ [none, none] _ _ _ _ _ (show LeL [none, none] [some (.ref v0), some (.int v1)] from trivial) HH) H2))))))))))))
/-- SnapshotRings$State.giveUp from 24 -/
theorem r_S_giveUp_24 {s0 : Int32} {h : sn_H} {Q : Option Value → sn_H → Prop}
    (H1 : Q (some (.int s0)) h) :
    wpE 45 24 [none, none] [.int s0] h (0, 0) Q :=
  vc_s (ct := fun pc => Nat.beq pc 15) 1000 false H1
/-- SnapshotRings$State.partOfRow from 0 -/
theorem r_S_partOfRow_0 {v0 : Nat} {v1 : Int32} {v2 : Int32} {q1 : Nat} {n1 : Nat} {q2 : Nat} {n2 : Nat} {q3 : Nat} {n3 : Nat} {h : sn_H} {Q : Option Value → sn_H → Prop}
    (k1 : hK h v0 = (0, 1, 14))
    (k2 : hR h v0 9 = some q1)
    (k3 : hK h q1 = (1, 0, n1))
    (k4 : hR h v0 10 = some q2)
    (k5 : hK h q2 = (1, 0, n2))
    (k6 : hR h v0 11 = some q3)
    (k7 : hK h q3 = (1, 0, n3))
    (B1 : v2.toInt = 0 → vp_in v1 n1)
    (H2 : v2.toInt = 0 → Q (some (.int (hG h q1 v1.toNatClampNeg))) h)
    (B3 : v2.toInt = 1 → vp_in v1 n2)
    (H4 : v2.toInt = 1 → Q (some (.int (hG h q2 v1.toNatClampNeg))) h)
    (B5 : v2.toInt = 2 → vp_in v1 n3)
    (H6 : v2.toInt = 2 → Q (some (.int (hG h q3 v1.toNatClampNeg))) h)
    (H7 : (v2.toInt < 0 ∨ 2 < v2.toInt) → Q (some (.int (-(nI 20002)))) h) :
    wpE 50 0 [some (.ref v0), some (.int v1), some (.int v2)] [] h (0, 0) Q :=
  vc_s (ct := fun _ => false) 1000 false (And.intro (And.intro (fun c1 => (And.intro k1 (Exists.intro q1 (And.intro k2 (Exists.intro 0 (Exists.intro n1 (And.intro k3 (And.intro (B1 c1) (H2 c1))))))))) (And.intro (fun c2 => (And.intro k1 (Exists.intro q2 (And.intro k4 (Exists.intro 0 (Exists.intro n2 (And.intro k5 (And.intro (B3 c2) (H4 c2))))))))) (And.intro (fun c3 => (And.intro k1 (Exists.intro q3 (And.intro k6 (Exists.intro 0 (Exists.intro n3 (And.intro k7 (And.intro (B5 c3) (H6 c3))))))))) True.intro))) (fun c4 => (H7 c4)))
/-- SnapshotRings$State.isKept from 0 -/
theorem r_S_isKept_0 {v0 : Nat} {v1 : Int32} {h : sn_H} {Q : Option Value → sn_H → Prop}
    (k1 : hK h v0 = (0, 1, 14))
    (H1 : v1 < nI 1 → Q (some (.int (nI 0))) h)
    (H2 : ¬ v1 < nI 1 → (hG h v0 1) < v1 → Q (some (.int (nI 0))) h)
    (H3 : ¬ v1 < nI 1 → ¬ (hG h v0 1) < v1 → v1 ≤ ((hG h v0 1) - nI 16) → Q (some (.int (nI 0))) h)
    (H4 : ¬ v1 < nI 1 → ¬ (hG h v0 1) < v1 → ¬ v1 ≤ ((hG h v0 1) - nI 16) → Q (some (.int (nI 1))) h) :
    wpE 52 0 [some (.ref v0), some (.int v1)] [] h (0, 0) Q :=
  vc_s (ct := fun _ => false) 1000 false (And.intro (fun c1 => (And.intro rfl (H1 c1))) (fun c2 => (And.intro k1 (And.intro (fun c3 => (And.intro rfl (H2 c2 c3))) (fun c4 => (And.intro k1 (And.intro (fun c5 => (And.intro rfl (H3 c2 c4 c5))) (fun c6 => (And.intro rfl (H4 c2 c4 c6))))))))))
/-- SnapshotRings$Graph.toldAt from 0 -/
theorem r_G_toldAt_0 {v0 : Nat} {v1 : Int32} {q1 : Nat} {n1 : Nat} {h : sn_H} {Q : Option Value → sn_H → Prop}
    (k1 : hK h v0 = (0, 3, 10))
    (k2 : hR h v0 8 = some q1)
    (k3 : hK h q1 = (1, 0, n1))
    (H1 : v1 < 0 → Q (some (.int (-(nI 20006)))) h)
    (H2 : ¬ v1 < 0 → (hG h v0 9) ≤ v1 → Q (some (.int (-(nI 20006)))) h)
    (B3 : ¬ v1 < 0 → ¬ (hG h v0 9) ≤ v1 → vp_in v1 n1)
    (H4 : ¬ v1 < 0 → ¬ (hG h v0 9) ≤ v1 → Q (some (.int (hG h q1 v1.toNatClampNeg))) h) :
    wpE 55 0 [some (.ref v0), some (.int v1)] [] h (0, 0) Q :=
  vc_s (ct := fun _ => false) 1000 false (And.intro (fun c1 => (H1 c1)) (fun c2 => (And.intro k1 (And.intro (fun c3 => (H2 c2 c3)) (fun c4 => (And.intro k1 (Exists.intro q1 (And.intro k2 (Exists.intro 0 (Exists.intro n1 (And.intro k3 (And.intro (B3 c2 c4) (H4 c2 c4)))))))))))))
/-- SnapshotRings$Graph.countNodesInRings from 0 -/
theorem r_G_countNodesInRings_0 {v0 : Nat} {h : sn_H} {Q : Option Value → sn_H → Prop}
    (H1 : wpE 57 2 [some (.ref v0), some (.int (nI 0)), none] [] h (0, 0) Q) :
    wpE 57 0 [some (.ref v0), none, none] [] h (0, 0) Q :=
  vc_s (ct := fun pc => Nat.beq pc 2 || Nat.beq pc 30 || Nat.beq pc 40 || Nat.beq pc 92) 1000 false (And.intro (Nat.le_of_ble_eq_true rfl) H1)
/-- SnapshotRings$Graph.countNodesInRings from 2 -/
theorem r_G_countNodesInRings_2 {v0 : Nat} {v1 : Int32} {q1 : Nat} {q2 : Nat} {n1 : Nat} {n2 : Nat} {h : sn_H} {Q : Option Value → sn_H → Prop}
    (k1 : hK h v0 = (0, 3, 10))
    (k2 : hR h v0 6 = some q1)
    (k3 : hR h v0 4 = some q2)
    (k4 : hK h q2 = (1, 0, n1))
    (k5 : hK h q1 = (1, 0, n2))
    (H1 : (hG h v0 0) ≤ v1 → wpE 57 30 [some (.ref v0), some (.int (nI 0)), none] [] h (0, 0) Q)
    (B2 : ¬ (hG h v0 0) ≤ v1 → vp_in v1 n1)
    (B3 : ¬ (hG h v0 0) ≤ v1 → vp_in v1 n2)
    (H4 : ¬ (hG h v0 0) ≤ v1 → wpE 57 2 [some (.ref v0), some (.int (v1 + nI 1)), none] [] (setG h q1 v1.toNatClampNeg (hG h q2 v1.toNatClampNeg)) (0, 0) Q) :
    wpE 57 2 [some (.ref v0), some (.int v1), none] [] h (0, 0) Q :=
  vc_s (ct := fun pc => Nat.beq pc 2 || Nat.beq pc 30 || Nat.beq pc 40 || Nat.beq pc 92) 1000 false (And.intro k1 (And.intro (fun c1 => (And.intro (Nat.le_of_ble_eq_true rfl) (H1 c1))) (fun c2 => (And.intro k1 (Exists.intro q1 (And.intro k2 (And.intro k1 (Exists.intro q2 (And.intro k3 (Exists.intro 0 (Exists.intro n1 (And.intro k4 (And.intro (B2 c2) (Exists.intro n2 (And.intro k5 (And.intro (B3 c2) (And.intro (Nat.le_of_ble_eq_true rfl) (H4 c2))))))))))))))))))
/-- SnapshotRings$Graph.countNodesInRings from 30 -/
theorem r_G_countNodesInRings_30 {v0 : Nat} {v1 : Int32} {h : sn_H} {Q : Option Value → sn_H → Prop}
    (k1 : hK h v0 = (0, 3, 10))
    (H1 : (hG h v0 0) ≤ v1 → wpE 57 92 [some (.ref v0), some (.int (nI 0)), some (.int (nI 0))] [] h (0, 0) Q)
    (H2 : ¬ (hG h v0 0) ≤ v1 → wpE 57 40 [some (.ref v0), some (.int v1), some (.int (nI 0))] [] h (0, 0) Q) :
    wpE 57 30 [some (.ref v0), some (.int v1), none] [] h (0, 0) Q :=
  vc_s (ct := fun pc => Nat.beq pc 2 || Nat.beq pc 30 || Nat.beq pc 40 || Nat.beq pc 92) 1000 false (And.intro k1 (And.intro (fun c1 => (And.intro (Nat.le_of_ble_eq_true rfl) (And.intro (Nat.le_of_ble_eq_true rfl) (H1 c1)))) (fun c2 => (And.intro (Nat.le_of_ble_eq_true rfl) (H2 c2)))))
/-- SnapshotRings$Graph.countNodesInRings from 92 -/
theorem r_G_countNodesInRings_92 {v0 : Nat} {v1 : Int32} {v2 : Int32} {q1 : Nat} {n1 : Nat} {h : sn_H} {Q : Option Value → sn_H → Prop}
    (k1 : hK h v0 = (0, 3, 10))
    (k2 : hR h v0 6 = some q1)
    (k3 : hK h q1 = (1, 0, n1))
    (H1 : (hG h v0 0) ≤ v2 → Q (some (.int v1)) h)
    (B2 : ¬ (hG h v0 0) ≤ v2 → vp_in v2 n1)
    (H3 : ¬ (hG h v0 0) ≤ v2 → ¬ (((hG h q1 v2.toNatClampNeg) >>> (v2 &&& 31)) &&& nI 1) = nI 1 → wpE 57 92 [some (.ref v0), some (.int v1), some (.int (v2 + nI 1))] [] h (0, 0) Q)
    (H4 : ¬ (hG h v0 0) ≤ v2 → (((hG h q1 v2.toNatClampNeg) >>> (v2 &&& 31)) &&& nI 1) = nI 1 → wpE 57 92 [some (.ref v0), some (.int (v1 + nI 1)), some (.int (v2 + nI 1))] [] h (0, 0) Q) :
    wpE 57 92 [some (.ref v0), some (.int v1), some (.int v2)] [] h (0, 0) Q :=
  vc_s (ct := fun pc => Nat.beq pc 2 || Nat.beq pc 30 || Nat.beq pc 40 || Nat.beq pc 92) 1000 false (And.intro k1 (And.intro (fun c1 => (H1 c1)) (fun c2 => (And.intro k1 (Exists.intro q1 (And.intro k2 (Exists.intro 0 (Exists.intro n1 (And.intro k3 (And.intro (B2 c2) (And.intro (Nat.le_of_ble_eq_true rfl) (And.intro (Nat.le_of_ble_eq_true rfl) (And.intro (Nat.le_of_ble_eq_true rfl) (And.intro (Nat.le_of_ble_eq_true rfl) (r_X_hasBit_0 (v0 := (hG h q1 v2.toNatClampNeg)) (v1 := v2) (h := h) (fun c3 => (vc_s (ct := fun pc => Nat.beq pc 2 || Nat.beq pc 30 || Nat.beq pc 40 || Nat.beq pc 92) 1000 false (And.intro (fun c4 => (And.intro (Nat.le_of_ble_eq_true rfl) (H3 c2 c3))) (fun c4 => absurd c4 (by decide))))) (fun c5 => (vc_s (ct := fun pc => Nat.beq pc 2 || Nat.beq pc 30 || Nat.beq pc 40 || Nat.beq pc 92) 1000 false (And.intro (fun c6 => absurd c6 (by decide)) (fun c6 => (And.intro (Nat.le_of_ble_eq_true rfl) (And.intro (Nat.le_of_ble_eq_true rfl) (H4 c2 c5))))))))))))))))))))))
/-- SnapshotRings$Graph.countNodesInRings from 40 -/
theorem r_G_countNodesInRings_40 {v0 : Nat} {v1 : Int32} {v2 : Int32} {q1 : Nat} {n1 : Nat} {h : sn_H} {Q : Option Value → sn_H → Prop}
    (k1 : hK h v0 = (0, 3, 10))
    (k2 : hR h v0 6 = some q1)
    (k3 : hK h q1 = (1, 0, n1))
    (H1 : (hG h v0 0) ≤ v2 → wpE 57 30 [some (.ref v0), some (.int (v1 + nI 1)), none] [] h (0, 0) Q)
    (B2 : ¬ (hG h v0 0) ≤ v2 → vp_in v2 n1)
    (H3 : ¬ (hG h v0 0) ≤ v2 → ¬ (((hG h q1 v2.toNatClampNeg) >>> (v1 &&& 31)) &&& nI 1) = nI 1 → wpE 57 40 [some (.ref v0), some (.int v1), some (.int (v2 + nI 1))] [] h (0, 0) Q)
    (B4 : ¬ (hG h v0 0) ≤ v2 → (((hG h q1 v2.toNatClampNeg) >>> (v1 &&& 31)) &&& nI 1) = nI 1 → vp_in v1 n1)
    (H5 : ¬ (hG h v0 0) ≤ v2 → (((hG h q1 v2.toNatClampNeg) >>> (v1 &&& 31)) &&& nI 1) = nI 1 → wpE 57 40 [some (.ref v0), some (.int v1), some (.int (v2 + nI 1))] [] (setG h q1 v2.toNatClampNeg ((hG h q1 v2.toNatClampNeg) ||| (hG h q1 v1.toNatClampNeg))) (0, 0) Q) :
    wpE 57 40 [some (.ref v0), some (.int v1), some (.int v2)] [] h (0, 0) Q :=
  vc_s (ct := fun pc => Nat.beq pc 2 || Nat.beq pc 30 || Nat.beq pc 40 || Nat.beq pc 92) 1000 false (And.intro k1 (And.intro (fun c1 => (And.intro (Nat.le_of_ble_eq_true rfl) (@wpE_w _ _ [some (.ref v0), some (.int (v1 + nI 1)), none] _ _ _ _ _ (show LeL [some (.ref v0), some (.int (v1 + nI 1)), none] [some (.ref v0), some (.int (v1 + nI 1)), some (.int v2)] from (And.intro rfl (And.intro rfl trivial))) (H1 c1)))) (fun c2 => (And.intro k1 (Exists.intro q1 (And.intro k2 (Exists.intro 0 (Exists.intro n1 (And.intro k3 (And.intro (B2 c2) (And.intro (Nat.le_of_ble_eq_true rfl) (And.intro (Nat.le_of_ble_eq_true rfl) (And.intro (Nat.le_of_ble_eq_true rfl) (And.intro (Nat.le_of_ble_eq_true rfl) (r_X_hasBit_0 (v0 := (hG h q1 v2.toNatClampNeg)) (v1 := v1) (h := h) (fun c3 => (vc_s (ct := fun pc => Nat.beq pc 2 || Nat.beq pc 30 || Nat.beq pc 40 || Nat.beq pc 92) 1000 false (And.intro (fun c4 => (And.intro (Nat.le_of_ble_eq_true rfl) (H3 c2 c3))) (fun c4 => absurd c4 (by decide))))) (fun c5 => (vc_s (ct := fun pc => Nat.beq pc 2 || Nat.beq pc 30 || Nat.beq pc 40 || Nat.beq pc 92) 1000 false (And.intro (fun c6 => absurd c6 (by decide)) (fun c6 => (And.intro k1 (Exists.intro q1 (And.intro k2 (And.intro rfl (And.intro rfl (Exists.intro 0 (Exists.intro n1 (And.intro k3 (And.intro (B2 c2) (And.intro k1 (Exists.intro q1 (And.intro k2 (Exists.intro 0 (Exists.intro n1 (And.intro k3 (And.intro (B4 c2 c5) (Exists.intro n1 (And.intro k3 (And.intro (B2 c2) (And.intro (Nat.le_of_ble_eq_true rfl) (H5 c2 c5))))))))))))))))))))))))))))))))))))))))
/-- SnapshotRings$Graph.lowestPossible from 0 -/
theorem r_G_lowestPossible_0 {v0 : Nat} {v1 : Int32} {h : sn_H} {Q : Option Value → sn_H → Prop}
    (H1 : wpE 60 4 [some (.ref v0), some (.int v1), some (.int v1), some (.int (nI 0))] [] h (0, 0) Q) :
    wpE 60 0 [some (.ref v0), some (.int v1), none, none] [] h (0, 0) Q :=
  vc_s (ct := fun pc => Nat.beq pc 4 || Nat.beq pc 37) 1000 false (And.intro (Nat.le_of_ble_eq_true rfl) (And.intro (Nat.le_of_ble_eq_true rfl) H1))
/-- SnapshotRings$Graph.lowestPossible from 4 -/
theorem r_G_lowestPossible_4 {v0 : Nat} {v1 : Int32} {v2 : Int32} {v3 : Int32} {q1 : Nat} {n1 : Nat} {h : sn_H} {Q : Option Value → sn_H → Prop}
    (k1 : hK h v0 = (0, 3, 10))
    (k2 : hR h v0 4 = some q1)
    (k3 : hK h q1 = (1, 0, n1))
    (H1 : (hG h v0 0) ≤ v3 → wpE 60 37 [some (.ref v0), none, some (.int v2), some (.int (nI 0))] [] h (0, 0) Q)
    (B2 : ¬ (hG h v0 0) ≤ v3 → ¬ ((v1 >>> (v3 &&& 31)) &&& nI 1) = nI 1 → vp_in v3 n1)
    (H3 : ¬ (hG h v0 0) ≤ v3 → ¬ ((v1 >>> (v3 &&& 31)) &&& nI 1) = nI 1 → wpE 60 4 [some (.ref v0), some (.int v1), some (.int (v2 ||| (hG h q1 v3.toNatClampNeg))), some (.int (v3 + nI 1))] [] h (0, 0) Q)
    (H4 : ¬ (hG h v0 0) ≤ v3 → ((v1 >>> (v3 &&& 31)) &&& nI 1) = nI 1 → wpE 60 4 [some (.ref v0), some (.int v1), some (.int v2), some (.int (v3 + nI 1))] [] h (0, 0) Q) :
    wpE 60 4 [some (.ref v0), some (.int v1), some (.int v2), some (.int v3)] [] h (0, 0) Q :=
  vc_s (ct := fun pc => Nat.beq pc 4 || Nat.beq pc 37) 1000 false (And.intro k1 (And.intro (fun c1 => (And.intro (Nat.le_of_ble_eq_true rfl) (@wpE_w _ _ [some (.ref v0), none, some (.int v2), some (.int (nI 0))] _ _ _ _ _ (show LeL [some (.ref v0), none, some (.int v2), some (.int (nI 0))] [some (.ref v0), some (.int v1), some (.int v2), some (.int (nI 0))] from (And.intro rfl (And.intro rfl (And.intro rfl trivial)))) (H1 c1)))) (fun c2 => (And.intro (Nat.le_of_ble_eq_true rfl) (And.intro (Nat.le_of_ble_eq_true rfl) (And.intro (Nat.le_of_ble_eq_true rfl) (And.intro (Nat.le_of_ble_eq_true rfl) (r_X_hasBit_0 (v0 := v1) (v1 := v3) (h := h) (fun c3 => (vc_s (ct := fun pc => Nat.beq pc 4 || Nat.beq pc 37) 1000 false (And.intro (fun c4 => absurd c4 (by decide)) (fun c4 => (And.intro k1 (Exists.intro q1 (And.intro k2 (Exists.intro 0 (Exists.intro n1 (And.intro k3 (And.intro (B2 c2 c3) (And.intro (Nat.le_of_ble_eq_true rfl) (And.intro (Nat.le_of_ble_eq_true rfl) (H3 c2 c3)))))))))))))) (fun c5 => (vc_s (ct := fun pc => Nat.beq pc 4 || Nat.beq pc 37) 1000 false (And.intro (fun c6 => (And.intro (Nat.le_of_ble_eq_true rfl) (H4 c2 c5))) (fun c6 => absurd c6 (by decide)))))))))))))
/-- SnapshotRings$Graph.lowestPossible from 37 -/
theorem r_G_lowestPossible_37 {v0 : Nat} {v2 : Int32} {v3 : Int32} {h : sn_H} {Q : Option Value → sn_H → Prop}
    (k1 : hK h v0 = (0, 3, 10))
    (H1 : (hG h v0 0) ≤ v3 → Q (some (.int (-(nI 1)))) h)
    (H2 : ¬ (hG h v0 0) ≤ v3 → ¬ ((v2 >>> (v3 &&& 31)) &&& nI 1) = nI 1 → Q (some (.int v3)) h)
    (H3 : ¬ (hG h v0 0) ≤ v3 → ((v2 >>> (v3 &&& 31)) &&& nI 1) = nI 1 → wpE 60 37 [some (.ref v0), none, some (.int v2), some (.int (v3 + nI 1))] [] h (0, 0) Q) :
    wpE 60 37 [some (.ref v0), none, some (.int v2), some (.int v3)] [] h (0, 0) Q :=
  vc_s (ct := fun pc => Nat.beq pc 4 || Nat.beq pc 37) 1000 false (And.intro k1 (And.intro (fun c1 => (H1 c1)) (fun c2 => (And.intro (Nat.le_of_ble_eq_true rfl) (And.intro (Nat.le_of_ble_eq_true rfl) (And.intro (Nat.le_of_ble_eq_true rfl) (And.intro (Nat.le_of_ble_eq_true rfl) (r_X_hasBit_0 (v0 := v2) (v1 := v3) (h := h) (fun c3 => (vc_s (ct := fun pc => Nat.beq pc 4 || Nat.beq pc 37) 1000 false (And.intro (fun c4 => absurd c4 (by decide)) (fun c4 => (H2 c2 c3))))) (fun c5 => (vc_s (ct := fun pc => Nat.beq pc 4 || Nat.beq pc 37) 1000 false (And.intro (fun c6 => (And.intro (Nat.le_of_ble_eq_true rfl) (H3 c2 c5))) (fun c6 => absurd c6 (by decide)))))))))))))
/-- SnapshotRings$Graph.findOrder from 0 -/
theorem r_G_findOrder_0 {v0 : Nat} {h : sn_H} {Q : Option Value → sn_H → Prop}
    (k1 : hK h v0 = (0, 3, 10))
    (H1 : wpE 59 9 [some (.ref v0), some (.int (nI 0)), some (.int (nI 0)), none] [] (setG h v0 9 (nI 0)) (0, 0) Q) :
    wpE 59 0 [some (.ref v0), none, none, none] [] h (0, 0) Q :=
  vc_s (ct := fun pc => Nat.beq pc 9 || Nat.beq pc 44) 1000 false (And.intro k1 (And.intro rfl (And.intro (Nat.le_of_ble_eq_true rfl) (And.intro (Nat.le_of_ble_eq_true rfl) H1))))
/-- SnapshotRings$Graph.findOrder from 9 -/
theorem r_G_findOrder_9 {v0 : Nat} {v1 : Int32} {v2 : Int32} {h : sn_H} {Q : Option Value → sn_H → Prop}
    (k1 : hK h v0 = (0, 3, 10))
    (H1 : (hG h v0 0) ≤ v2 → Q none h)
    (H2 : ¬ (hG h v0 0) ≤ v2 → wpE 60 0 [some (.ref v0), some (.int v1), none, none] [] h (0, 0) (fun r h => wpE 59 22 [some (.ref v0), some (.int v1), some (.int v2), none] (r.toList ++ []) h (0, 0) Q)) :
    wpE 59 9 [some (.ref v0), some (.int v1), some (.int v2), none] [] h (0, 0) Q :=
  vc_s (ct := fun pc => Nat.beq pc 9 || Nat.beq pc 44) 1000 false (And.intro k1 (And.intro (fun c1 => (And.intro rfl (H1 c1))) (fun c2 => (And.intro k1 (And.intro (Nat.le_of_ble_eq_true rfl) (And.intro (Nat.le_of_ble_eq_true rfl) (And.intro (Nat.le_of_ble_eq_true rfl) (And.intro (Nat.le_of_ble_eq_true rfl) (H2 c2)))))))))
/-- SnapshotRings$Graph.findOrder from 22 -/
theorem r_G_findOrder_22 {v0 : Nat} {v1 : Int32} {v2 : Int32} {s0 : Int32} {q1 : Nat} {q2 : Nat} {n1 : Nat} {n2 : Nat} {h : sn_H} {Q : Option Value → sn_H → Prop}
    (k1 : hK h v0 = (0, 3, 10))
    (k2 : hR h v0 8 = some q1)
    (k3 : hR h v0 2 = some q2)
    (k4 : hK h q2 = (1, 0, n1))
    (k5 : hK h q1 = (1, 0, n2))
    (B1 : 0 ≤ s0 → vp_in s0 n1)
    (B2 : 0 ≤ s0 → vp_in (hG h v0 9) n2)
    (H3 : 0 ≤ s0 → wpE 59 44 [some (.ref v0), some (.int (v1 ||| (nI 1 <<< (s0 &&& 31)))), some (.int v2), none] [] (setG (setG h q1 (hG h v0 9).toNatClampNeg (hG h q2 s0.toNatClampNeg)) v0 9 ((hG (setG h q1 (hG h v0 9).toNatClampNeg (hG h q2 s0.toNatClampNeg)) v0 9) + nI 1)) (0, 0) Q)
    (H4 : ¬ 0 ≤ s0 → Q none (setG h v0 9 (nI 0))) :
    wpE 59 22 [some (.ref v0), some (.int v1), some (.int v2), none] [.int s0] h (0, 0) Q :=
  vc_s (ct := fun pc => Nat.beq pc 9 || Nat.beq pc 44) 1000 false (And.intro (Nat.le_of_ble_eq_true rfl) (And.intro (fun c1 => (And.intro k1 (And.intro (Nat.le_of_ble_eq_true rfl) (And.intro (Nat.le_of_ble_eq_true rfl) (And.intro (Nat.le_of_ble_eq_true rfl) (And.intro (Nat.le_of_ble_eq_true rfl) (r_G_tell_0 (v0 := v0) (v1 := s0) (q1 := q1) (q2 := q2) (n1 := n1) (n2 := n2) (h := h) k1 k2 k3 k4 k5 ((B1 c1)) ((B2 c1)) ((vc_s (ct := fun pc => Nat.beq pc 9 || Nat.beq pc 44) 1000 false (And.intro (Nat.le_of_ble_eq_true rfl) (@wpE_w _ _ [some (.ref v0), some (.int (v1 ||| (nI 1 <<< (s0 &&& 31)))), some (.int v2), none] _ _ _ _ _ (show LeL [some (.ref v0), some (.int (v1 ||| (nI 1 <<< (s0 &&& 31)))), some (.int v2), none] [some (.ref v0), some (.int (v1 ||| (nI 1 <<< (s0 &&& 31)))), some (.int v2), some (.int s0)] from (And.intro rfl (And.intro rfl (And.intro rfl trivial)))) (H3 c1)))))))))))) (fun c2 => (And.intro k1 (And.intro rfl (And.intro rfl (H4 c2)))))))
/-- SnapshotRings$Graph.findOrder from 44 -/
theorem r_G_findOrder_44 {v0 : Nat} {v1 : Int32} {v2 : Int32} {h : sn_H} {Q : Option Value → sn_H → Prop}
    (H1 : wpE 59 9 [some (.ref v0), some (.int v1), some (.int (v2 + nI 1)), none] [] h (0, 0) Q) :
    wpE 59 44 [some (.ref v0), some (.int v1), some (.int v2), none] [] h (0, 0) Q :=
  vc_s (ct := fun pc => Nat.beq pc 9 || Nat.beq pc 44) 1000 false (And.intro (Nat.le_of_ble_eq_true rfl) H1)
/-- SnapshotRings$Graph.countSkewPairs from 0 -/
theorem r_G_countSkewPairs_0 {v0 : Nat} {h : sn_H} {Q : Option Value → sn_H → Prop}
    (H1 : wpE 62 4 [some (.ref v0), some (.int (nI 0)), some (.int (nI 0)), none] [] h (0, 0) Q) :
    wpE 62 0 [some (.ref v0), none, none, none] [] h (0, 0) Q :=
  vc_s (ct := fun pc => Nat.beq pc 4 || Nat.beq pc 16) 1000 false (And.intro (Nat.le_of_ble_eq_true rfl) (And.intro (Nat.le_of_ble_eq_true rfl) H1))
/-- SnapshotRings$Graph.countSkewPairs from 4 -/
theorem r_G_countSkewPairs_4 {v0 : Nat} {v1 : Int32} {v2 : Int32} {h : sn_H} {Q : Option Value → sn_H → Prop}
    (k1 : hK h v0 = (0, 3, 10))
    (H1 : (hG h v0 0) ≤ v2 → Q (some (.int v1)) h)
    (H2 : ¬ (hG h v0 0) ≤ v2 → wpE 62 16 [some (.ref v0), some (.int v1), some (.int v2), some (.int (v2 + nI 1))] [] h (0, 0) Q) :
    wpE 62 4 [some (.ref v0), some (.int v1), some (.int v2), none] [] h (0, 0) Q :=
  vc_s (ct := fun pc => Nat.beq pc 4 || Nat.beq pc 16) 1000 false (And.intro k1 (And.intro (fun c1 => (H1 c1)) (fun c2 => (And.intro (Nat.le_of_ble_eq_true rfl) (H2 c2)))))
/-- SnapshotRings$Graph.countSkewPairs from 16 -/
theorem r_G_countSkewPairs_16 {v0 : Nat} {v1 : Int32} {v2 : Int32} {v3 : Int32} {q1 : Nat} {n1 : Nat} {h : sn_H} {Q : Option Value → sn_H → Prop}
    (k1 : hK h v0 = (0, 3, 10))
    (k2 : hR h v0 5 = some q1)
    (k3 : hK h q1 = (1, 0, n1))
    (H1 : (hG h v0 0) ≤ v3 → wpE 62 4 [some (.ref v0), some (.int v1), some (.int (v2 + nI 1)), none] [] h (0, 0) Q)
    (B2 : ¬ (hG h v0 0) ≤ v3 → vp_in v2 n1)
    (H3 : ¬ (hG h v0 0) ≤ v3 → ¬ (((hG h q1 v2.toNatClampNeg) >>> (v3 &&& 31)) &&& nI 1) = nI 1 → wpE 62 16 [some (.ref v0), some (.int v1), some (.int v2), some (.int (v3 + nI 1))] [] h (0, 0) Q)
    (B4 : ¬ (hG h v0 0) ≤ v3 → (((hG h q1 v2.toNatClampNeg) >>> (v3 &&& 31)) &&& nI 1) = nI 1 → vp_in v3 n1)
    (H5 : ¬ (hG h v0 0) ≤ v3 → (((hG h q1 v2.toNatClampNeg) >>> (v3 &&& 31)) &&& nI 1) = nI 1 → ¬ (((hG h q1 v3.toNatClampNeg) >>> (v2 &&& 31)) &&& nI 1) = nI 1 → wpE 62 16 [some (.ref v0), some (.int v1), some (.int v2), some (.int (v3 + nI 1))] [] h (0, 0) Q)
    (H6 : ¬ (hG h v0 0) ≤ v3 → (((hG h q1 v2.toNatClampNeg) >>> (v3 &&& 31)) &&& nI 1) = nI 1 → (((hG h q1 v3.toNatClampNeg) >>> (v2 &&& 31)) &&& nI 1) = nI 1 → wpE 62 16 [some (.ref v0), some (.int (v1 + nI 1)), some (.int v2), some (.int (v3 + nI 1))] [] h (0, 0) Q) :
    wpE 62 16 [some (.ref v0), some (.int v1), some (.int v2), some (.int v3)] [] h (0, 0) Q :=
  vc_s (ct := fun pc => Nat.beq pc 4 || Nat.beq pc 16) 1000 false (And.intro k1 (And.intro (fun c1 => (And.intro (Nat.le_of_ble_eq_true rfl) (@wpE_w _ _ [some (.ref v0), some (.int v1), some (.int (v2 + nI 1)), none] _ _ _ _ _ (show LeL [some (.ref v0), some (.int v1), some (.int (v2 + nI 1)), none] [some (.ref v0), some (.int v1), some (.int (v2 + nI 1)), some (.int v3)] from (And.intro rfl (And.intro rfl (And.intro rfl trivial)))) (H1 c1)))) (fun c2 => (And.intro k1 (Exists.intro q1 (And.intro k2 (Exists.intro 0 (Exists.intro n1 (And.intro k3 (And.intro (B2 c2) (And.intro (Nat.le_of_ble_eq_true rfl) (And.intro (Nat.le_of_ble_eq_true rfl) (And.intro (Nat.le_of_ble_eq_true rfl) (And.intro (Nat.le_of_ble_eq_true rfl) (r_X_hasBit_0 (v0 := (hG h q1 v2.toNatClampNeg)) (v1 := v3) (h := h) (fun c3 => (vc_s (ct := fun pc => Nat.beq pc 4 || Nat.beq pc 16) 1000 false (And.intro (fun c4 => (And.intro (Nat.le_of_ble_eq_true rfl) (H3 c2 c3))) (fun c4 => absurd c4 (by decide))))) (fun c5 => (vc_s (ct := fun pc => Nat.beq pc 4 || Nat.beq pc 16) 1000 false (And.intro (fun c6 => absurd c6 (by decide)) (fun c6 => (And.intro k1 (Exists.intro q1 (And.intro k2 (Exists.intro 0 (Exists.intro n1 (And.intro k3 (And.intro (B4 c2 c5) (And.intro (Nat.le_of_ble_eq_true rfl) (And.intro (Nat.le_of_ble_eq_true rfl) (And.intro (Nat.le_of_ble_eq_true rfl) (And.intro (Nat.le_of_ble_eq_true rfl) (r_X_hasBit_0 (v0 := (hG h q1 v3.toNatClampNeg)) (v1 := v2) (h := h) (fun c7 => (vc_s (ct := fun pc => Nat.beq pc 4 || Nat.beq pc 16) 1000 false (And.intro (fun c8 => (And.intro (Nat.le_of_ble_eq_true rfl) (H5 c2 c5 c7))) (fun c8 => absurd c8 (by decide))))) (fun c9 => (vc_s (ct := fun pc => Nat.beq pc 4 || Nat.beq pc 16) 1000 false (And.intro (fun c10 => absurd c10 (by decide)) (fun c10 => (And.intro (Nat.le_of_ble_eq_true rfl) (And.intro (Nat.le_of_ble_eq_true rfl) (H6 c2 c5 c9))))))))))))))))))))))))))))))))))))))
/-- SnapshotRings$State.constraintIsMet from 0 -/
theorem r_S_constraintIsMet_0 {v0 : Nat} {v1 : Nat} {v2 : Int32} {v3 : Int32} {h : sn_H} {Q : Option Value → sn_H → Prop}
    (H1 : wpE 64 6 [some (.ref v0), some (.ref v1), some (.int v2), some (.int v3), some (.int (nI 0)), some (.int (nI 0))] [] h (0, 0) Q) :
    wpE 64 0 [some (.ref v0), some (.ref v1), some (.int v2), some (.int v3), none, none] [] h (0, 0) Q :=
  vc_s (ct := fun pc => Nat.beq pc 6) 1000 false (And.intro (Nat.le_of_ble_eq_true rfl) (And.intro (Nat.le_of_ble_eq_true rfl) H1))
/-- SnapshotRings$State.constraintIsMet from 6 -/
theorem r_S_constraintIsMet_6 {v0 : Nat} {v1 : Nat} {v2 : Int32} {v3 : Int32} {v4 : Int32} {v5 : Int32} {q1 : Nat} {n1 : Nat} {q2 : Nat} {n2 : Nat} {n3 : Nat} {h : sn_H} {Q : Option Value → sn_H → Prop}
    (k1 : hK h v0 = (0, 1, 14))
    (k2 : hR h v0 6 = some q1)
    (k3 : hK h q1 = (1, 0, n1))
    (k4 : hR h v0 5 = some q2)
    (k5 : hK h q2 = (1, 0, n2))
    (k6 : hK h v1 = (1, 0, n3))
    (B1 : nI 12 ≤ v5 → vp_in v3 n1)
    (H2 : nI 12 ≤ v5 → v4 < (hG h q1 v3.toNatClampNeg) → Q (some (.int (nI 0))) h)
    (H3 : nI 12 ≤ v5 → ¬ v4 < (hG h q1 v3.toNatClampNeg) → Q (some (.int (nI 1))) h)
    (B4 : ¬ nI 12 ≤ v5 → vp_in v3 n2)
    (H5 : ¬ nI 12 ≤ v5 → ¬ (((hG h q2 v3.toNatClampNeg) >>> (v5 &&& 31)) &&& nI 1) = nI 1 → wpE 64 6 [some (.ref v0), some (.ref v1), some (.int v2), some (.int v3), some (.int v4), some (.int (v5 + nI 1))] [] h (0, 0) Q)
    (B6 : ¬ nI 12 ≤ v5 → (((hG h q2 v3.toNatClampNeg) >>> (v5 &&& 31)) &&& nI 1) = nI 1 → vp_in (v2 + v5) n3)
    (H7 : ¬ nI 12 ≤ v5 → (((hG h q2 v3.toNatClampNeg) >>> (v5 &&& 31)) &&& nI 1) = nI 1 → wpE 64 6 [some (.ref v0), some (.ref v1), some (.int v2), some (.int v3), some (.int (v4 + (hG h v1 (v2 + v5).toNatClampNeg))), some (.int (v5 + nI 1))] [] h (0, 0) Q) :
    wpE 64 6 [some (.ref v0), some (.ref v1), some (.int v2), some (.int v3), some (.int v4), some (.int v5)] [] h (0, 0) Q :=
  vc_s (ct := fun pc => Nat.beq pc 6) 1000 false (And.intro (fun c1 => (And.intro k1 (Exists.intro q1 (And.intro k2 (Exists.intro 0 (Exists.intro n1 (And.intro k3 (And.intro (B1 c1) (And.intro (fun c2 => (And.intro rfl (H2 c1 c2))) (fun c3 => (And.intro rfl (H3 c1 c3)))))))))))) (fun c4 => (And.intro k1 (Exists.intro q2 (And.intro k4 (Exists.intro 0 (Exists.intro n2 (And.intro k5 (And.intro (B4 c4) (And.intro (Nat.le_of_ble_eq_true rfl) (And.intro (Nat.le_of_ble_eq_true rfl) (And.intro (Nat.le_of_ble_eq_true rfl) (And.intro (Nat.le_of_ble_eq_true rfl) (r_X_hasBit_0 (v0 := (hG h q2 v3.toNatClampNeg)) (v1 := v5) (h := h) (fun c5 => (vc_s (ct := fun pc => Nat.beq pc 6) 1000 false (And.intro (fun c6 => (And.intro (Nat.le_of_ble_eq_true rfl) (H5 c4 c5))) (fun c6 => absurd c6 (by decide))))) (fun c7 => (vc_s (ct := fun pc => Nat.beq pc 6) 1000 false (And.intro (fun c8 => absurd c8 (by decide)) (fun c8 => (Exists.intro 0 (Exists.intro n3 (And.intro k6 (And.intro (B6 c4 c7) (And.intro (Nat.le_of_ble_eq_true rfl) (And.intro (Nat.le_of_ble_eq_true rfl) (H7 c4 c7)))))))))))))))))))))))))
/-- SnapshotRings$Schedule.append from 0 -/
theorem r_T_append_0 {v0 : Nat} {v1 : Int32} {q1 : Nat} {n1 : Nat} {h : sn_H} {Q : Option Value → sn_H → Prop}
    (k1 : hK h v0 = (0, 4, 2))
    (k2 : hR h v0 0 = some q1)
    (k3 : hK h q1 = (2, 0, n1))
    (H1 : nI 80 ≤ (hG h v0 1) → Q none h)
    (B2 : ¬ nI 80 ≤ (hG h v0 1) → vp_in (hG h v0 1) n1)
    (H3 : ¬ nI 80 ≤ (hG h v0 1) → Q none (setG (setG h q1 (hG h v0 1).toNatClampNeg (vp_nar .char v1)) v0 1 ((hG (setG h q1 (hG h v0 1).toNatClampNeg (vp_nar .char v1)) v0 1) + nI 1))) :
    wpE 69 0 [some (.ref v0), some (.int v1)] [] h (0, 0) Q :=
  vc_s (ct := fun _ => false) 1000 false (And.intro k1 (And.intro (fun c1 => (And.intro rfl (H1 c1))) (fun c2 => (And.intro k1 (Exists.intro q1 (And.intro k2 (And.intro k1 (Exists.intro n1 (And.intro k3 (And.intro (B2 c2) (And.intro rfl (And.intro k1 (And.intro k1 (And.intro rfl (And.intro rfl (H3 c2))))))))))))))))
/-- SnapshotRings$Schedule.signAt from 0 -/
theorem r_T_signAt_0 {v0 : Nat} {v1 : Int32} {q1 : Nat} {n1 : Nat} {h : sn_H} {Q : Option Value → sn_H → Prop}
    (k1 : hK h v0 = (0, 4, 2))
    (k2 : hR h v0 0 = some q1)
    (k3 : hK h q1 = (2, 0, n1))
    (H1 : v1 < 0 → Q (some (.int (nI 0))) h)
    (H2 : ¬ v1 < 0 → (hG h v0 1) ≤ v1 → Q (some (.int (nI 0))) h)
    (B3 : ¬ v1 < 0 → ¬ (hG h v0 1) ≤ v1 → vp_in v1 n1)
    (H4 : ¬ v1 < 0 → ¬ (hG h v0 1) ≤ v1 → Q (some (.int (hG h q1 v1.toNatClampNeg))) h)
    (B5 : ¬ v1 < 0 → ¬ (hG h v0 1) ≤ v1 → narrow .char (.int (hG h q1 v1.toNatClampNeg)) = .int (hG h q1 v1.toNatClampNeg)) :
    wpE 73 0 [some (.ref v0), some (.int v1)] [] h (0, 0) Q :=
  vc_s (ct := fun _ => false) 1000 false (And.intro (fun c1 => (And.intro rfl (H1 c1))) (fun c2 => (And.intro k1 (And.intro (fun c3 => (And.intro rfl (H2 c2 c3))) (fun c4 => (And.intro k1 (Exists.intro q1 (And.intro k2 (Exists.intro n1 (And.intro k3 (And.intro (B3 c2 c4) (And.intro (B5 c2 c4) (H4 c2 c4)))))))))))))
/-- SnapshotRings$Schedule.awaitedAfterLetter from 0 -/
theorem r_T_awaitedAfterLetter_0 {v0 : Int32} {h : sn_H} {Q : Option Value → sn_H → Prop}
    (H1 : v0.toInt = 97 → Q (some (.int (nI 1))) h)
    (H2 : ¬ v0.toInt = 97 → v0.toInt = 98 → Q (some (.int (nI 1))) h)
    (H3 : ¬ v0.toInt = 97 → ¬ v0.toInt = 98 → v0.toInt = 99 → Q (some (.int (nI 1))) h)
    (H4 : ¬ v0.toInt = 97 → ¬ v0.toInt = 98 → ¬ v0.toInt = 99 → v0.toInt = 114 → Q (some (.int (nI 2))) h)
    (H5 : ¬ v0.toInt = 97 → ¬ v0.toInt = 98 → ¬ v0.toInt = 99 → ¬ v0.toInt = 114 → v0.toInt = 119 → Q (some (.int (nI 4))) h)
    (H6 : ¬ v0.toInt = 97 → ¬ v0.toInt = 98 → ¬ v0.toInt = 99 → ¬ v0.toInt = 114 → ¬ v0.toInt = 119 → Q (some (.int (-(nI 1)))) h) :
    wpE 75 0 [some (.int v0)] [] h (0, 0) Q :=
  vc_s (ct := fun _ => false) 1000 false (And.intro (fun c1 => (H1 c1)) (fun c2 => (And.intro (fun c3 => (H2 c2 c3)) (fun c4 => (And.intro (fun c5 => (H3 c2 c4 c5)) (fun c6 => (And.intro (fun c7 => (H4 c2 c4 c6 c7)) (fun c8 => (And.intro (fun c9 => (H5 c2 c4 c6 c8 c9)) (fun c10 => (H6 c2 c4 c6 c8 c10)))))))))))
/-- SnapshotRings$Schedule.isBetween from 0 -/
theorem r_T_isBetween_0 {v0 : Int32} {v1 : Int32} {v2 : Int32} {h : sn_H} {Q : Option Value → sn_H → Prop}
    (H1 : v0 < v1 → Q (some (.int (nI 0))) h)
    (H2 : ¬ v0 < v1 → v2 < v0 → Q (some (.int (nI 0))) h)
    (H3 : ¬ v0 < v1 → ¬ v2 < v0 → Q (some (.int (nI 1))) h) :
    wpE 76 0 [some (.int v0), some (.int v1), some (.int v2)] [] h (0, 0) Q :=
  vc_s (ct := fun _ => false) 1000 false (And.intro (fun c1 => (And.intro rfl (H1 c1))) (fun c2 => (And.intro (fun c3 => (And.intro rfl (H2 c2 c3))) (fun c4 => (And.intro rfl (H3 c2 c4))))))
/-- SnapshotRings$Schedule.isDigit from 0 -/
theorem r_T_isDigit_0 {v0 : Int32} {h : sn_H} {Q : Option Value → sn_H → Prop}
    (H1 : v0 < (nI 48) → Q (some (.int (nI 0))) h)
    (H2 : ¬ v0 < (nI 48) → (nI 57) < v0 → Q (some (.int (nI 0))) h)
    (H3 : ¬ v0 < (nI 48) → ¬ (nI 57) < v0 → Q (some (.int (nI 1))) h) :
    wpE 78 0 [some (.int v0)] [] h (0, 0) Q :=
  vc_s (ct := fun _ => false) 1000 false (And.intro (Nat.le_of_ble_eq_true rfl) (And.intro (Nat.le_of_ble_eq_true rfl) (And.intro (Nat.le_of_ble_eq_true rfl) (And.intro (Nat.le_of_ble_eq_true rfl) (r_T_isBetween_0 (v0 := v0) (v1 := (nI 48)) (v2 := (nI 57)) (h := h) (fun c1 => (vc_s (ct := fun _ => false) 1000 false (And.intro rfl (H1 c1)))) (fun c2 c3 => (vc_s (ct := fun _ => false) 1000 false (And.intro rfl (H2 c2 c3)))) (fun c4 c5 => (vc_s (ct := fun _ => false) 1000 false (And.intro rfl (H3 c4 c5)))))))))
/-- SnapshotRings$Schedule.awaitedAfterDigit from 0 -/
theorem r_T_awaitedAfterDigit_0 {v0 : Int32} {v1 : Int32} {h : sn_H} {Q : Option Value → sn_H → Prop}
    (H1 : v0 < (nI 48) → Q (some (.int (-(nI 1)))) h)
    (H2 : ¬ v0 < (nI 48) → (nI 57) < v0 → Q (some (.int (-(nI 1)))) h)
    (H3 : ¬ v0 < (nI 48) → ¬ (nI 57) < v0 → Q (some (.int v1)) h) :
    wpE 77 0 [some (.int v0), some (.int v1)] [] h (0, 0) Q :=
  vc_s (ct := fun _ => false) 1000 false (And.intro (Nat.le_of_ble_eq_true rfl) (And.intro (Nat.le_of_ble_eq_true rfl) (And.intro (Nat.le_of_ble_eq_true rfl) (And.intro (Nat.le_of_ble_eq_true rfl) (r_T_isDigit_0 (v0 := v0) (h := h) (fun c1 => (vc_s (ct := fun _ => false) 1000 false (And.intro (fun c2 => (H1 c1)) (fun c2 => absurd c2 (by decide))))) (fun c3 c4 => (vc_s (ct := fun _ => false) 1000 false (And.intro (fun c5 => (H2 c3 c4)) (fun c5 => absurd c5 (by decide))))) (fun c6 c7 => (vc_s (ct := fun _ => false) 1000 false (And.intro (fun c8 => absurd c8 (by decide)) (fun c8 => (H3 c6 c7))))))))))
/-- SnapshotRings$Schedule.awaitedAfter from 0 -/
theorem r_T_awaitedAfter_0 {v0 : Int32} {v1 : Int32} {h : sn_H} {Q : Option Value → sn_H → Prop}
    (H1 : v0.toInt = 0 → v1.toInt = 97 → Q (some (.int (nI 1))) h)
    (H2 : v0.toInt = 0 → ¬ v1.toInt = 97 → v1.toInt = 98 → Q (some (.int (nI 1))) h)
    (H3 : v0.toInt = 0 → ¬ v1.toInt = 97 → ¬ v1.toInt = 98 → v1.toInt = 99 → Q (some (.int (nI 1))) h)
    (H4 : v0.toInt = 0 → ¬ v1.toInt = 97 → ¬ v1.toInt = 98 → ¬ v1.toInt = 99 → v1.toInt = 114 → Q (some (.int (nI 2))) h)
    (H5 : v0.toInt = 0 → ¬ v1.toInt = 97 → ¬ v1.toInt = 98 → ¬ v1.toInt = 99 → ¬ v1.toInt = 114 → v1.toInt = 119 → Q (some (.int (nI 4))) h)
    (H6 : v0.toInt = 0 → ¬ v1.toInt = 97 → ¬ v1.toInt = 98 → ¬ v1.toInt = 99 → ¬ v1.toInt = 114 → ¬ v1.toInt = 119 → Q (some (.int (-(nI 1)))) h)
    (H7 : v0.toInt = 1 → v1 < (nI 48) → Q (some (.int (-(nI 1)))) h)
    (H8 : v0.toInt = 1 → ¬ v1 < (nI 48) → (nI 55) < v1 → Q (some (.int (-(nI 1)))) h)
    (H9 : v0.toInt = 1 → ¬ v1 < (nI 48) → ¬ (nI 55) < v1 → Q (some (.int (nI 11))) h)
    (H10 : v0.toInt = 2 → v1 < (nI 48) → Q (some (.int (-(nI 1)))) h)
    (H11 : v0.toInt = 2 → ¬ v1 < (nI 48) → (nI 55) < v1 → Q (some (.int (-(nI 1)))) h)
    (H12 : v0.toInt = 2 → ¬ v1 < (nI 48) → ¬ (nI 55) < v1 → Q (some (.int (nI 3))) h)
    (H13 : v0.toInt = 3 → v1 < (nI 97) → Q (some (.int (-(nI 1)))) h)
    (H14 : v0.toInt = 3 → ¬ v1 < (nI 97) → (nI 108) < v1 → Q (some (.int (-(nI 1)))) h)
    (H15 : v0.toInt = 3 → ¬ v1 < (nI 97) → ¬ (nI 108) < v1 → Q (some (.int (nI 11))) h)
    (H16 : v0.toInt = 4 → v1 < (nI 48) → Q (some (.int (-(nI 1)))) h)
    (H17 : v0.toInt = 4 → ¬ v1 < (nI 48) → (nI 55) < v1 → Q (some (.int (-(nI 1)))) h)
    (H18 : v0.toInt = 4 → ¬ v1 < (nI 48) → ¬ (nI 55) < v1 → Q (some (.int (nI 5))) h)
    (H19 : v0.toInt = 5 → v1 < (nI 97) → Q (some (.int (-(nI 1)))) h)
    (H20 : v0.toInt = 5 → ¬ v1 < (nI 97) → (nI 108) < v1 → Q (some (.int (-(nI 1)))) h)
    (H21 : v0.toInt = 5 → ¬ v1 < (nI 97) → ¬ (nI 108) < v1 → Q (some (.int (nI 6))) h)
    (H22 : v0.toInt = 6 → ¬ v1 = nI 61 → Q (some (.int (-(nI 1)))) h)
    (H23 : v0.toInt = 6 → v1 = nI 61 → Q (some (.int (nI 7))) h)
    (H24 : v0.toInt = 7 → ¬ v1 = nI 45 → v1 < (nI 48) → Q (some (.int (-(nI 1)))) h)
    (H25 : v0.toInt = 7 → ¬ v1 = nI 45 → ¬ v1 < (nI 48) → (nI 57) < v1 → Q (some (.int (-(nI 1)))) h)
    (H26 : v0.toInt = 7 → ¬ v1 = nI 45 → ¬ v1 < (nI 48) → ¬ (nI 57) < v1 → Q (some (.int (nI 9))) h)
    (H27 : v0.toInt = 7 → v1 = nI 45 → Q (some (.int (nI 8))) h)
    (H28 : v0.toInt = 8 → v1 < (nI 48) → Q (some (.int (-(nI 1)))) h)
    (H29 : v0.toInt = 8 → ¬ v1 < (nI 48) → (nI 57) < v1 → Q (some (.int (-(nI 1)))) h)
    (H30 : v0.toInt = 8 → ¬ v1 < (nI 48) → ¬ (nI 57) < v1 → Q (some (.int (nI 9))) h)
    (H31 : v0.toInt = 9 → ¬ v1 = nI 59 → v1 < (nI 48) → Q (some (.int (-(nI 1)))) h)
    (H32 : v0.toInt = 9 → ¬ v1 = nI 59 → ¬ v1 < (nI 48) → (nI 57) < v1 → Q (some (.int (-(nI 1)))) h)
    (H33 : v0.toInt = 9 → ¬ v1 = nI 59 → ¬ v1 < (nI 48) → ¬ (nI 57) < v1 → Q (some (.int (nI 10))) h)
    (H34 : v0.toInt = 9 → v1 = nI 59 → Q (some (.int (nI 0))) h)
    (H35 : v0.toInt = 10 → ¬ v1 = nI 59 → v1 < (nI 48) → Q (some (.int (-(nI 1)))) h)
    (H36 : v0.toInt = 10 → ¬ v1 = nI 59 → ¬ v1 < (nI 48) → (nI 57) < v1 → Q (some (.int (-(nI 1)))) h)
    (H37 : v0.toInt = 10 → ¬ v1 = nI 59 → ¬ v1 < (nI 48) → ¬ (nI 57) < v1 → Q (some (.int (nI 11))) h)
    (H38 : v0.toInt = 10 → v1 = nI 59 → Q (some (.int (nI 0))) h)
    (H39 : (v0.toInt < 0 ∨ 10 < v0.toInt) → ¬ v1 = nI 59 → Q (some (.int (-(nI 1)))) h)
    (H40 : (v0.toInt < 0 ∨ 10 < v0.toInt) → v1 = nI 59 → Q (some (.int (nI 0))) h) :
    wpE 74 0 [some (.int v0), some (.int v1)] [] h (0, 0) Q :=
  vc_s (ct := fun _ => false) 1000 false (And.intro (And.intro (fun c1 => (And.intro (Nat.le_of_ble_eq_true rfl) (And.intro (Nat.le_of_ble_eq_true rfl) (And.intro (Nat.le_of_ble_eq_true rfl) (And.intro (Nat.le_of_ble_eq_true rfl) (r_T_awaitedAfterLetter_0 (v0 := v1) (h := h) (fun c2 => (vc_s (ct := fun _ => false) 1000 false (H1 c1 c2))) (fun c3 c4 => (vc_s (ct := fun _ => false) 1000 false (H2 c1 c3 c4))) (fun c5 c6 c7 => (vc_s (ct := fun _ => false) 1000 false (H3 c1 c5 c6 c7))) (fun c8 c9 c10 c11 => (vc_s (ct := fun _ => false) 1000 false (H4 c1 c8 c9 c10 c11))) (fun c12 c13 c14 c15 c16 => (vc_s (ct := fun _ => false) 1000 false (H5 c1 c12 c13 c14 c15 c16))) (fun c17 c18 c19 c20 c21 => (vc_s (ct := fun _ => false) 1000 false (H6 c1 c17 c18 c19 c20 c21))))))))) (And.intro (fun c22 => (And.intro (Nat.le_of_ble_eq_true rfl) (And.intro (Nat.le_of_ble_eq_true rfl) (And.intro (Nat.le_of_ble_eq_true rfl) (And.intro (Nat.le_of_ble_eq_true rfl) (r_T_isBetween_0 (v0 := v1) (v1 := (nI 48)) (v2 := (nI 55)) (h := h) (fun c23 => (vc_s (ct := fun _ => false) 1000 false (And.intro (fun c24 => (H7 c22 c23)) (fun c24 => absurd c24 (by decide))))) (fun c25 c26 => (vc_s (ct := fun _ => false) 1000 false (And.intro (fun c27 => (H8 c22 c25 c26)) (fun c27 => absurd c27 (by decide))))) (fun c28 c29 => (vc_s (ct := fun _ => false) 1000 false (And.intro (fun c30 => absurd c30 (by decide)) (fun c30 => (H9 c22 c28 c29))))))))))) (And.intro (fun c31 => (And.intro (Nat.le_of_ble_eq_true rfl) (And.intro (Nat.le_of_ble_eq_true rfl) (And.intro (Nat.le_of_ble_eq_true rfl) (And.intro (Nat.le_of_ble_eq_true rfl) (r_T_isBetween_0 (v0 := v1) (v1 := (nI 48)) (v2 := (nI 55)) (h := h) (fun c32 => (vc_s (ct := fun _ => false) 1000 false (And.intro (fun c33 => (H10 c31 c32)) (fun c33 => absurd c33 (by decide))))) (fun c34 c35 => (vc_s (ct := fun _ => false) 1000 false (And.intro (fun c36 => (H11 c31 c34 c35)) (fun c36 => absurd c36 (by decide))))) (fun c37 c38 => (vc_s (ct := fun _ => false) 1000 false (And.intro (fun c39 => absurd c39 (by decide)) (fun c39 => (H12 c31 c37 c38))))))))))) (And.intro (fun c40 => (And.intro (Nat.le_of_ble_eq_true rfl) (And.intro (Nat.le_of_ble_eq_true rfl) (And.intro (Nat.le_of_ble_eq_true rfl) (And.intro (Nat.le_of_ble_eq_true rfl) (r_T_isBetween_0 (v0 := v1) (v1 := (nI 97)) (v2 := (nI 108)) (h := h) (fun c41 => (vc_s (ct := fun _ => false) 1000 false (And.intro (fun c42 => (H13 c40 c41)) (fun c42 => absurd c42 (by decide))))) (fun c43 c44 => (vc_s (ct := fun _ => false) 1000 false (And.intro (fun c45 => (H14 c40 c43 c44)) (fun c45 => absurd c45 (by decide))))) (fun c46 c47 => (vc_s (ct := fun _ => false) 1000 false (And.intro (fun c48 => absurd c48 (by decide)) (fun c48 => (H15 c40 c46 c47))))))))))) (And.intro (fun c49 => (And.intro (Nat.le_of_ble_eq_true rfl) (And.intro (Nat.le_of_ble_eq_true rfl) (And.intro (Nat.le_of_ble_eq_true rfl) (And.intro (Nat.le_of_ble_eq_true rfl) (r_T_isBetween_0 (v0 := v1) (v1 := (nI 48)) (v2 := (nI 55)) (h := h) (fun c50 => (vc_s (ct := fun _ => false) 1000 false (And.intro (fun c51 => (H16 c49 c50)) (fun c51 => absurd c51 (by decide))))) (fun c52 c53 => (vc_s (ct := fun _ => false) 1000 false (And.intro (fun c54 => (H17 c49 c52 c53)) (fun c54 => absurd c54 (by decide))))) (fun c55 c56 => (vc_s (ct := fun _ => false) 1000 false (And.intro (fun c57 => absurd c57 (by decide)) (fun c57 => (H18 c49 c55 c56))))))))))) (And.intro (fun c58 => (And.intro (Nat.le_of_ble_eq_true rfl) (And.intro (Nat.le_of_ble_eq_true rfl) (And.intro (Nat.le_of_ble_eq_true rfl) (And.intro (Nat.le_of_ble_eq_true rfl) (r_T_isBetween_0 (v0 := v1) (v1 := (nI 97)) (v2 := (nI 108)) (h := h) (fun c59 => (vc_s (ct := fun _ => false) 1000 false (And.intro (fun c60 => (H19 c58 c59)) (fun c60 => absurd c60 (by decide))))) (fun c61 c62 => (vc_s (ct := fun _ => false) 1000 false (And.intro (fun c63 => (H20 c58 c61 c62)) (fun c63 => absurd c63 (by decide))))) (fun c64 c65 => (vc_s (ct := fun _ => false) 1000 false (And.intro (fun c66 => absurd c66 (by decide)) (fun c66 => (H21 c58 c64 c65))))))))))) (And.intro (fun c67 => (And.intro (fun c68 => (H22 c67 c68)) (fun c69 => (H23 c67 c69)))) (And.intro (fun c70 => (And.intro (fun c71 => (And.intro (Nat.le_of_ble_eq_true rfl) (And.intro (Nat.le_of_ble_eq_true rfl) (And.intro (Nat.le_of_ble_eq_true rfl) (And.intro (Nat.le_of_ble_eq_true rfl) (r_T_awaitedAfterDigit_0 (v0 := v1) (v1 := (nI 9)) (h := h) (fun c72 => (vc_s (ct := fun _ => false) 1000 false (H24 c70 c71 c72))) (fun c73 c74 => (vc_s (ct := fun _ => false) 1000 false (H25 c70 c71 c73 c74))) (fun c75 c76 => (vc_s (ct := fun _ => false) 1000 false (H26 c70 c71 c75 c76))))))))) (fun c77 => (H27 c70 c77)))) (And.intro (fun c78 => (And.intro (Nat.le_of_ble_eq_true rfl) (And.intro (Nat.le_of_ble_eq_true rfl) (And.intro (Nat.le_of_ble_eq_true rfl) (And.intro (Nat.le_of_ble_eq_true rfl) (r_T_awaitedAfterDigit_0 (v0 := v1) (v1 := (nI 9)) (h := h) (fun c79 => (vc_s (ct := fun _ => false) 1000 false (H28 c78 c79))) (fun c80 c81 => (vc_s (ct := fun _ => false) 1000 false (H29 c78 c80 c81))) (fun c82 c83 => (vc_s (ct := fun _ => false) 1000 false (H30 c78 c82 c83))))))))) (And.intro (fun c84 => (And.intro (fun c85 => (And.intro (Nat.le_of_ble_eq_true rfl) (And.intro (Nat.le_of_ble_eq_true rfl) (And.intro (Nat.le_of_ble_eq_true rfl) (And.intro (Nat.le_of_ble_eq_true rfl) (r_T_awaitedAfterDigit_0 (v0 := v1) (v1 := (nI 10)) (h := h) (fun c86 => (vc_s (ct := fun _ => false) 1000 false (H31 c84 c85 c86))) (fun c87 c88 => (vc_s (ct := fun _ => false) 1000 false (H32 c84 c85 c87 c88))) (fun c89 c90 => (vc_s (ct := fun _ => false) 1000 false (H33 c84 c85 c89 c90))))))))) (fun c91 => (H34 c84 c91)))) (And.intro (fun c92 => (And.intro (fun c93 => (And.intro (Nat.le_of_ble_eq_true rfl) (And.intro (Nat.le_of_ble_eq_true rfl) (And.intro (Nat.le_of_ble_eq_true rfl) (And.intro (Nat.le_of_ble_eq_true rfl) (r_T_awaitedAfterDigit_0 (v0 := v1) (v1 := (nI 11)) (h := h) (fun c94 => (vc_s (ct := fun _ => false) 1000 false (H35 c92 c93 c94))) (fun c95 c96 => (vc_s (ct := fun _ => false) 1000 false (H36 c92 c93 c95 c96))) (fun c97 c98 => (vc_s (ct := fun _ => false) 1000 false (H37 c92 c93 c97 c98))))))))) (fun c99 => (H38 c92 c99)))) True.intro))))))))))) (fun c100 => (And.intro (fun c101 => (H39 c100 c101)) (fun c102 => (H40 c100 c102)))))
/-- SnapshotRings$Schedule.firstError from 0 -/
theorem r_T_firstError_0 {v0 : Nat} {h : sn_H} {Q : Option Value → sn_H → Prop}
    (H1 : wpE 72 4 [some (.ref v0), some (.int (nI 0)), some (.int (nI 0))] [] h (0, 0) Q) :
    wpE 72 0 [some (.ref v0), none, none] [] h (0, 0) Q :=
  vc_s (ct := fun pc => Nat.beq pc 4) 1000 false (And.intro (Nat.le_of_ble_eq_true rfl) (And.intro (Nat.le_of_ble_eq_true rfl) H1))
/-- SnapshotRings$Schedule.firstError from 4 -/
theorem r_T_firstError_4 {v0 : Nat} {v1 : Int32} {v2 : Int32} {q1 : Nat} {n1 : Nat} {h : sn_H} {Q : Option Value → sn_H → Prop}
    (k1 : hK h v0 = (0, 4, 2))
    (k2 : hR h v0 0 = some q1)
    (k3 : hK h q1 = (2, 0, n1))
    (H1 : (hG h v0 1) ≤ v2 → v1 < nI 9 → Q (some (.int (hG h v0 1))) h)
    (H2 : (hG h v0 1) ≤ v2 → ¬ v1 < nI 9 → Q (some (.int (-(nI 20006)))) h)
    (H3 : ¬ (hG h v0 1) ≤ v2 → v2 < 0 → wpE 74 0 [some (.int v1), some (.int (nI 0))] [] h (0, 0) (fun r h => wpE 72 21 [some (.ref v0), none, some (.int v2)] (r.toList ++ []) h (0, 0) Q))
    (H4 : ¬ (hG h v0 1) ≤ v2 → ¬ v2 < 0 → (hG h v0 1) ≤ v2 → wpE 74 0 [some (.int v1), some (.int (nI 0))] [] h (0, 0) (fun r h => wpE 72 21 [some (.ref v0), none, some (.int v2)] (r.toList ++ []) h (0, 0) Q))
    (B5 : ¬ (hG h v0 1) ≤ v2 → ¬ v2 < 0 → ¬ (hG h v0 1) ≤ v2 → vp_in v2 n1)
    (H6 : ¬ (hG h v0 1) ≤ v2 → ¬ v2 < 0 → ¬ (hG h v0 1) ≤ v2 → wpE 74 0 [some (.int v1), some (.int (hG h q1 v2.toNatClampNeg))] [] h (0, 0) (fun r h => wpE 72 21 [some (.ref v0), none, some (.int v2)] (r.toList ++ []) h (0, 0) Q))
    (B7 : ¬ (hG h v0 1) ≤ v2 → ¬ v2 < 0 → ¬ (hG h v0 1) ≤ v2 → narrow .char (.int (hG h q1 v2.toNatClampNeg)) = .int (hG h q1 v2.toNatClampNeg)) :
    wpE 72 4 [some (.ref v0), some (.int v1), some (.int v2)] [] h (0, 0) Q :=
  vc_s (ct := fun pc => Nat.beq pc 4) 1000 false (And.intro k1 (And.intro (fun c1 => (And.intro (fun c2 => (And.intro k1 (H1 c1 c2))) (fun c3 => (H2 c1 c3)))) (fun c4 => (And.intro k1 (And.intro (Nat.le_of_ble_eq_true rfl) (And.intro (Nat.le_of_ble_eq_true rfl) (And.intro (Nat.le_of_ble_eq_true rfl) (And.intro (Nat.le_of_ble_eq_true rfl) (r_T_signAt_0 (v0 := v0) (v1 := v2) (q1 := q1) (n1 := n1) (h := h) k1 k2 k3 (fun c5 => (vc_s (ct := fun pc => Nat.beq pc 4) 1000 false (And.intro (Nat.le_of_ble_eq_true rfl) (And.intro (Nat.le_of_ble_eq_true rfl) (And.intro (Nat.le_of_ble_eq_true rfl) (And.intro (Nat.le_of_ble_eq_true rfl) (wpE_m (fun _ _ HH => @wpE_w _ _ [some (.ref v0), none, some (.int v2)] _ _ _ _ _ (show LeL [some (.ref v0), none, some (.int v2)] [some (.ref v0), some (.int v1), some (.int v2)] from (And.intro rfl (And.intro rfl trivial))) HH) (H3 c4 c5)))))))) (fun c6 c7 => (vc_s (ct := fun pc => Nat.beq pc 4) 1000 false (And.intro (Nat.le_of_ble_eq_true rfl) (And.intro (Nat.le_of_ble_eq_true rfl) (And.intro (Nat.le_of_ble_eq_true rfl) (And.intro (Nat.le_of_ble_eq_true rfl) (wpE_m (fun _ _ HH => @wpE_w _ _ [some (.ref v0), none, some (.int v2)] _ _ _ _ _ (show LeL [some (.ref v0), none, some (.int v2)] [some (.ref v0), some (.int v1), some (.int v2)] from (And.intro rfl (And.intro rfl trivial))) HH) (H4 c4 c6 c7)))))))) (fun c8 c9 => (B5 c4 c8 c9)) (fun c10 c11 => (vc_s (ct := fun pc => Nat.beq pc 4) 1000 false (And.intro (Nat.le_of_ble_eq_true rfl) (And.intro (Nat.le_of_ble_eq_true rfl) (And.intro (Nat.le_of_ble_eq_true rfl) (And.intro (Nat.le_of_ble_eq_true rfl) (wpE_m (fun _ _ HH => @wpE_w _ _ [some (.ref v0), none, some (.int v2)] _ _ _ _ _ (show LeL [some (.ref v0), none, some (.int v2)] [some (.ref v0), some (.int v1), some (.int v2)] from (And.intro rfl (And.intro rfl trivial))) HH) (H6 c4 c10 c11)))))))) (fun c12 c13 => (B7 c4 c12 c13)))))))))))
/-- SnapshotRings$Schedule.firstError from 21 -/
theorem r_T_firstError_21 {v0 : Nat} {v2 : Int32} {s0 : Int32} {h : sn_H} {Q : Option Value → sn_H → Prop}
    (H1 : ¬ s0 = -(nI 1) → wpE 72 4 [some (.ref v0), some (.int s0), some (.int (v2 + nI 1))] [] h (0, 0) Q)
    (H2 : s0 = -(nI 1) → Q (some (.int v2)) h) :
    wpE 72 21 [some (.ref v0), none, some (.int v2)] [.int s0] h (0, 0) Q :=
  vc_s (ct := fun pc => Nat.beq pc 4) 1000 false (And.intro (Nat.le_of_ble_eq_true rfl) (And.intro (fun c1 => (And.intro (Nat.le_of_ble_eq_true rfl) (H1 c1))) (fun c2 => (H2 c2))))
/-- SnapshotRings$Schedule.slotOfStep from 0 -/
theorem r_T_slotOfStep_0 {v0 : Nat} {v1 : Int32} {q1 : Nat} {n1 : Nat} {h : sn_H} {Q : Option Value → sn_H → Prop}
    (k1 : hK h v0 = (0, 4, 2))
    (k2 : hR h v0 0 = some q1)
    (k3 : hK h q1 = (2, 0, n1))
    (H1 : (v1 + nI 1) < 0 → Q (some (.int (nI 0 - nI 48))) h)
    (H2 : ¬ (v1 + nI 1) < 0 → (hG h v0 1) ≤ (v1 + nI 1) → Q (some (.int (nI 0 - nI 48))) h)
    (B3 : ¬ (v1 + nI 1) < 0 → ¬ (hG h v0 1) ≤ (v1 + nI 1) → vp_in (v1 + nI 1) n1)
    (H4 : ¬ (v1 + nI 1) < 0 → ¬ (hG h v0 1) ≤ (v1 + nI 1) → Q (some (.int ((hG h q1 (v1 + nI 1).toNatClampNeg) - nI 48))) h)
    (B5 : ¬ (v1 + nI 1) < 0 → ¬ (hG h v0 1) ≤ (v1 + nI 1) → narrow .char (.int (hG h q1 (v1 + nI 1).toNatClampNeg)) = .int (hG h q1 (v1 + nI 1).toNatClampNeg)) :
    wpE 81 0 [some (.ref v0), some (.int v1)] [] h (0, 0) Q :=
  vc_s (ct := fun _ => false) 1000 false (And.intro k1 (And.intro (Nat.le_of_ble_eq_true rfl) (And.intro (Nat.le_of_ble_eq_true rfl) (And.intro (Nat.le_of_ble_eq_true rfl) (And.intro (Nat.le_of_ble_eq_true rfl) (r_T_signAt_0 (v0 := v0) (v1 := (v1 + nI 1)) (q1 := q1) (n1 := n1) (h := h) k1 k2 k3 (fun c1 => (vc_s (ct := fun _ => false) 1000 false (H1 c1))) (fun c2 c3 => (vc_s (ct := fun _ => false) 1000 false (H2 c2 c3))) (fun c4 c5 => (B3 c4 c5)) (fun c6 c7 => (vc_s (ct := fun _ => false) 1000 false (H4 c6 c7))) (fun c8 c9 => (B5 c8 c9))))))))
/-- SnapshotRings$Schedule.keyOfStep from 0 -/
theorem r_T_keyOfStep_0 {v0 : Nat} {v1 : Int32} {q1 : Nat} {n1 : Nat} {h : sn_H} {Q : Option Value → sn_H → Prop}
    (k1 : hK h v0 = (0, 4, 2))
    (k2 : hR h v0 0 = some q1)
    (k3 : hK h q1 = (2, 0, n1))
    (H1 : (v1 + nI 2) < 0 → Q (some (.int (nI 0 - nI 97))) h)
    (H2 : ¬ (v1 + nI 2) < 0 → (hG h v0 1) ≤ (v1 + nI 2) → Q (some (.int (nI 0 - nI 97))) h)
    (B3 : ¬ (v1 + nI 2) < 0 → ¬ (hG h v0 1) ≤ (v1 + nI 2) → vp_in (v1 + nI 2) n1)
    (H4 : ¬ (v1 + nI 2) < 0 → ¬ (hG h v0 1) ≤ (v1 + nI 2) → Q (some (.int ((hG h q1 (v1 + nI 2).toNatClampNeg) - nI 97))) h)
    (B5 : ¬ (v1 + nI 2) < 0 → ¬ (hG h v0 1) ≤ (v1 + nI 2) → narrow .char (.int (hG h q1 (v1 + nI 2).toNatClampNeg)) = .int (hG h q1 (v1 + nI 2).toNatClampNeg)) :
    wpE 83 0 [some (.ref v0), some (.int v1)] [] h (0, 0) Q :=
  vc_s (ct := fun _ => false) 1000 false (And.intro k1 (And.intro (Nat.le_of_ble_eq_true rfl) (And.intro (Nat.le_of_ble_eq_true rfl) (And.intro (Nat.le_of_ble_eq_true rfl) (And.intro (Nat.le_of_ble_eq_true rfl) (r_T_signAt_0 (v0 := v0) (v1 := (v1 + nI 2)) (q1 := q1) (n1 := n1) (h := h) k1 k2 k3 (fun c1 => (vc_s (ct := fun _ => false) 1000 false (H1 c1))) (fun c2 c3 => (vc_s (ct := fun _ => false) 1000 false (H2 c2 c3))) (fun c4 c5 => (B3 c4 c5)) (fun c6 c7 => (vc_s (ct := fun _ => false) 1000 false (H4 c6 c7))) (fun c8 c9 => (B5 c8 c9))))))))
/-- SnapshotRings$Schedule.valueOfStep from 0 -/
theorem r_T_valueOfStep_0 {v0 : Nat} {v1 : Int32} {q1 : Nat} {n1 : Nat} {h : sn_H} {Q : Option Value → sn_H → Prop}
    (k1 : hK h v0 = (0, 4, 2))
    (k2 : hR h v0 0 = some q1)
    (k3 : hK h q1 = (2, 0, n1))
    (H1 : (v1 + nI 4) < 0 → wpE 84 38 [some (.ref v0), none, some (.int (nI 0)), some (.int (v1 + nI 4)), some (.int (nI 0)), some (.int (v1 + nI 4))] [] h (0, 0) Q)
    (H2 : ¬ (v1 + nI 4) < 0 → (hG h v0 1) ≤ (v1 + nI 4) → wpE 84 38 [some (.ref v0), none, some (.int (nI 0)), some (.int (v1 + nI 4)), some (.int (nI 0)), some (.int (v1 + nI 4))] [] h (0, 0) Q)
    (B3 : ¬ (v1 + nI 4) < 0 → ¬ (hG h v0 1) ≤ (v1 + nI 4) → vp_in (v1 + nI 4) n1)
    (H4 : ¬ (v1 + nI 4) < 0 → ¬ (hG h v0 1) ≤ (v1 + nI 4) → ¬ (hG h q1 (v1 + nI 4).toNatClampNeg) = nI 45 → wpE 84 38 [some (.ref v0), none, some (.int (nI 0)), some (.int (v1 + nI 4)), some (.int (nI 0)), some (.int (v1 + nI 4))] [] h (0, 0) Q)
    (H5 : ¬ (v1 + nI 4) < 0 → ¬ (hG h v0 1) ≤ (v1 + nI 4) → (hG h q1 (v1 + nI 4).toNatClampNeg) = nI 45 → wpE 84 38 [some (.ref v0), none, some (.int (nI 1)), some (.int (v1 + nI 5)), some (.int (nI 0)), some (.int (v1 + nI 5))] [] h (0, 0) Q)
    (B6 : ¬ (v1 + nI 4) < 0 → ¬ (hG h v0 1) ≤ (v1 + nI 4) → narrow .char (.int (hG h q1 (v1 + nI 4).toNatClampNeg)) = .int (hG h q1 (v1 + nI 4).toNatClampNeg)) :
    wpE 84 0 [some (.ref v0), some (.int v1), none, none, none, none] [] h (0, 0) Q :=
  vc_s (ct := fun pc => Nat.beq pc 38) 1000 false (And.intro k1 (And.intro (Nat.le_of_ble_eq_true rfl) (And.intro (Nat.le_of_ble_eq_true rfl) (And.intro (Nat.le_of_ble_eq_true rfl) (And.intro (Nat.le_of_ble_eq_true rfl) (r_T_signAt_0 (v0 := v0) (v1 := (v1 + nI 4)) (q1 := q1) (n1 := n1) (h := h) k1 k2 k3 (fun c1 => (vc_s (ct := fun pc => Nat.beq pc 38) 1000 false (And.intro (fun c2 => (And.intro (Nat.le_of_ble_eq_true rfl) (And.intro (fun c3 => (And.intro (Nat.le_of_ble_eq_true rfl) (And.intro (Nat.le_of_ble_eq_true rfl) (And.intro (Nat.le_of_ble_eq_true rfl) (@wpE_w _ _ [some (.ref v0), none, some (.int (nI 0)), some (.int (v1 + nI 4)), some (.int (nI 0)), some (.int (v1 + nI 4))] _ _ _ _ _ (show LeL [some (.ref v0), none, some (.int (nI 0)), some (.int (v1 + nI 4)), some (.int (nI 0)), some (.int (v1 + nI 4))] [some (.ref v0), some (.int v1), some (.int (nI 0)), some (.int (v1 + nI 4)), some (.int (nI 0)), some (.int (v1 + nI 4))] from (And.intro rfl (And.intro rfl (And.intro rfl (And.intro rfl (And.intro rfl trivial)))))) (H1 c1)))))) (fun c3 => absurd c3 (by decide))))) (fun c2 => absurd c2 (by decide))))) (fun c4 c5 => (vc_s (ct := fun pc => Nat.beq pc 38) 1000 false (And.intro (fun c6 => (And.intro (Nat.le_of_ble_eq_true rfl) (And.intro (fun c7 => (And.intro (Nat.le_of_ble_eq_true rfl) (And.intro (Nat.le_of_ble_eq_true rfl) (And.intro (Nat.le_of_ble_eq_true rfl) (@wpE_w _ _ [some (.ref v0), none, some (.int (nI 0)), some (.int (v1 + nI 4)), some (.int (nI 0)), some (.int (v1 + nI 4))] _ _ _ _ _ (show LeL [some (.ref v0), none, some (.int (nI 0)), some (.int (v1 + nI 4)), some (.int (nI 0)), some (.int (v1 + nI 4))] [some (.ref v0), some (.int v1), some (.int (nI 0)), some (.int (v1 + nI 4)), some (.int (nI 0)), some (.int (v1 + nI 4))] from (And.intro rfl (And.intro rfl (And.intro rfl (And.intro rfl (And.intro rfl trivial)))))) (H2 c4 c5)))))) (fun c7 => absurd c7 (by decide))))) (fun c6 => absurd c6 (by decide))))) (fun c8 c9 => (B3 c8 c9)) (fun c10 c11 => (vc_s (ct := fun pc => Nat.beq pc 38) 1000 false (And.intro (fun c12 => (And.intro (Nat.le_of_ble_eq_true rfl) (And.intro (fun c13 => (And.intro (Nat.le_of_ble_eq_true rfl) (And.intro (Nat.le_of_ble_eq_true rfl) (And.intro (Nat.le_of_ble_eq_true rfl) (@wpE_w _ _ [some (.ref v0), none, some (.int (nI 0)), some (.int (v1 + nI 4)), some (.int (nI 0)), some (.int (v1 + nI 4))] _ _ _ _ _ (show LeL [some (.ref v0), none, some (.int (nI 0)), some (.int (v1 + nI 4)), some (.int (nI 0)), some (.int (v1 + nI 4))] [some (.ref v0), some (.int v1), some (.int (nI 0)), some (.int (v1 + nI 4)), some (.int (nI 0)), some (.int (v1 + nI 4))] from (And.intro rfl (And.intro rfl (And.intro rfl (And.intro rfl (And.intro rfl trivial)))))) (H4 c10 c11 c12)))))) (fun c13 => absurd c13 (by decide))))) (fun c14 => (And.intro (Nat.le_of_ble_eq_true rfl) (And.intro (fun c15 => absurd c15 (by decide)) (fun c15 => (And.intro (Nat.le_of_ble_eq_true rfl) (And.intro (Nat.le_of_ble_eq_true rfl) (And.intro (Nat.le_of_ble_eq_true rfl) (@wpE_w _ _ [some (.ref v0), none, some (.int (nI 1)), some (.int (v1 + nI 5)), some (.int (nI 0)), some (.int (v1 + nI 5))] _ _ _ _ _ (show LeL [some (.ref v0), none, some (.int (nI 1)), some (.int (v1 + nI 5)), some (.int (nI 0)), some (.int (v1 + nI 5))] [some (.ref v0), some (.int v1), some (.int (nI 1)), some (.int (v1 + nI 5)), some (.int (nI 0)), some (.int (v1 + nI 5))] from (And.intro rfl (And.intro rfl (And.intro rfl (And.intro rfl (And.intro rfl trivial)))))) (H5 c10 c11 c14)))))))))))) (fun c16 c17 => (B6 c16 c17))))))))
/-- SnapshotRings$Schedule.valueOfStep from 38 -/
theorem r_T_valueOfStep_38 {v0 : Nat} {v2 : Int32} {v3 : Int32} {v4 : Int32} {v5 : Int32} {q1 : Nat} {n1 : Nat} {h : sn_H} {Q : Option Value → sn_H → Prop}
    (k1 : hK h v0 = (0, 4, 2))
    (k2 : hR h v0 0 = some q1)
    (k3 : hK h q1 = (2, 0, n1))
    (H1 : (v3 + nI 3) ≤ v5 → v2 = 0 → Q (some (.int v4)) h)
    (H2 : (v3 + nI 3) ≤ v5 → ¬ v2 = 0 → Q (some (.int (-v4))) h)
    (H3 : ¬ (v3 + nI 3) ≤ v5 → v5 < 0 → v2 = 0 → Q (some (.int v4)) h)
    (H4 : ¬ (v3 + nI 3) ≤ v5 → v5 < 0 → ¬ v2 = 0 → Q (some (.int (-v4))) h)
    (H5 : ¬ (v3 + nI 3) ≤ v5 → ¬ v5 < 0 → (hG h v0 1) ≤ v5 → v2 = 0 → Q (some (.int v4)) h)
    (H6 : ¬ (v3 + nI 3) ≤ v5 → ¬ v5 < 0 → (hG h v0 1) ≤ v5 → ¬ v2 = 0 → Q (some (.int (-v4))) h)
    (B7 : ¬ (v3 + nI 3) ≤ v5 → ¬ v5 < 0 → ¬ (hG h v0 1) ≤ v5 → vp_in v5 n1)
    (H8 : ¬ (v3 + nI 3) ≤ v5 → ¬ v5 < 0 → ¬ (hG h v0 1) ≤ v5 → (hG h q1 v5.toNatClampNeg) < (nI 48) → v2 = 0 → Q (some (.int v4)) h)
    (H9 : ¬ (v3 + nI 3) ≤ v5 → ¬ v5 < 0 → ¬ (hG h v0 1) ≤ v5 → (hG h q1 v5.toNatClampNeg) < (nI 48) → ¬ v2 = 0 → Q (some (.int (-v4))) h)
    (H10 : ¬ (v3 + nI 3) ≤ v5 → ¬ v5 < 0 → ¬ (hG h v0 1) ≤ v5 → ¬ (hG h q1 v5.toNatClampNeg) < (nI 48) → (nI 57) < (hG h q1 v5.toNatClampNeg) → v2 = 0 → Q (some (.int v4)) h)
    (H11 : ¬ (v3 + nI 3) ≤ v5 → ¬ v5 < 0 → ¬ (hG h v0 1) ≤ v5 → ¬ (hG h q1 v5.toNatClampNeg) < (nI 48) → (nI 57) < (hG h q1 v5.toNatClampNeg) → ¬ v2 = 0 → Q (some (.int (-v4))) h)
    (H12 : ¬ (v3 + nI 3) ≤ v5 → ¬ v5 < 0 → ¬ (hG h v0 1) ≤ v5 → ¬ (hG h q1 v5.toNatClampNeg) < (nI 48) → ¬ (nI 57) < (hG h q1 v5.toNatClampNeg) → v5 < 0 → wpE 84 38 [some (.ref v0), none, some (.int v2), some (.int v3), some (.int ((nI 10 * v4) + (nI 0 - nI 48))), some (.int (v5 + nI 1))] [] h (0, 0) Q)
    (H13 : ¬ (v3 + nI 3) ≤ v5 → ¬ v5 < 0 → ¬ (hG h v0 1) ≤ v5 → ¬ (hG h q1 v5.toNatClampNeg) < (nI 48) → ¬ (nI 57) < (hG h q1 v5.toNatClampNeg) → ¬ v5 < 0 → (hG h v0 1) ≤ v5 → wpE 84 38 [some (.ref v0), none, some (.int v2), some (.int v3), some (.int ((nI 10 * v4) + (nI 0 - nI 48))), some (.int (v5 + nI 1))] [] h (0, 0) Q)
    (B14 : ¬ (v3 + nI 3) ≤ v5 → ¬ v5 < 0 → ¬ (hG h v0 1) ≤ v5 → ¬ (hG h q1 v5.toNatClampNeg) < (nI 48) → ¬ (nI 57) < (hG h q1 v5.toNatClampNeg) → ¬ v5 < 0 → ¬ (hG h v0 1) ≤ v5 → vp_in v5 n1)
    (H15 : ¬ (v3 + nI 3) ≤ v5 → ¬ v5 < 0 → ¬ (hG h v0 1) ≤ v5 → ¬ (hG h q1 v5.toNatClampNeg) < (nI 48) → ¬ (nI 57) < (hG h q1 v5.toNatClampNeg) → ¬ v5 < 0 → ¬ (hG h v0 1) ≤ v5 → wpE 84 38 [some (.ref v0), none, some (.int v2), some (.int v3), some (.int ((nI 10 * v4) + ((hG h q1 v5.toNatClampNeg) - nI 48))), some (.int (v5 + nI 1))] [] h (0, 0) Q)
    (B16 : ¬ (v3 + nI 3) ≤ v5 → ¬ v5 < 0 → ¬ (hG h v0 1) ≤ v5 → ¬ (hG h q1 v5.toNatClampNeg) < (nI 48) → ¬ (nI 57) < (hG h q1 v5.toNatClampNeg) → ¬ v5 < 0 → ¬ (hG h v0 1) ≤ v5 → narrow .char (.int (hG h q1 v5.toNatClampNeg)) = .int (hG h q1 v5.toNatClampNeg))
    (B17 : ¬ (v3 + nI 3) ≤ v5 → ¬ v5 < 0 → ¬ (hG h v0 1) ≤ v5 → narrow .char (.int (hG h q1 v5.toNatClampNeg)) = .int (hG h q1 v5.toNatClampNeg)) :
    wpE 84 38 [some (.ref v0), none, some (.int v2), some (.int v3), some (.int v4), some (.int v5)] [] h (0, 0) Q :=
  vc_s (ct := fun pc => Nat.beq pc 38) 1000 false (And.intro (fun c1 => (And.intro (fun c2 => (H1 c1 c2)) (fun c3 => (H2 c1 c3)))) (fun c4 => (And.intro k1 (And.intro (Nat.le_of_ble_eq_true rfl) (And.intro (Nat.le_of_ble_eq_true rfl) (And.intro (Nat.le_of_ble_eq_true rfl) (And.intro (Nat.le_of_ble_eq_true rfl) (r_T_signAt_0 (v0 := v0) (v1 := v5) (q1 := q1) (n1 := n1) (h := h) k1 k2 k3 (fun c5 => (vc_s (ct := fun pc => Nat.beq pc 38) 1000 false (And.intro (Nat.le_of_ble_eq_true rfl) (And.intro (Nat.le_of_ble_eq_true rfl) (And.intro (Nat.le_of_ble_eq_true rfl) (And.intro (Nat.le_of_ble_eq_true rfl) (r_T_isDigit_0 (v0 := (nI 0)) (h := h) (fun c6 => (vc_s (ct := fun pc => Nat.beq pc 38) 1000 false (And.intro (fun c7 => (And.intro (fun c8 => (H3 c4 c5 c8)) (fun c9 => (H4 c4 c5 c9)))) (fun c7 => absurd c7 (by decide))))) (fun c10 c11 => absurd c11 (by decide)) (fun c12 c13 => absurd c12 (by decide))))))))) (fun c14 c15 => (vc_s (ct := fun pc => Nat.beq pc 38) 1000 false (And.intro (Nat.le_of_ble_eq_true rfl) (And.intro (Nat.le_of_ble_eq_true rfl) (And.intro (Nat.le_of_ble_eq_true rfl) (And.intro (Nat.le_of_ble_eq_true rfl) (r_T_isDigit_0 (v0 := (nI 0)) (h := h) (fun c16 => (vc_s (ct := fun pc => Nat.beq pc 38) 1000 false (And.intro (fun c17 => (And.intro (fun c18 => (H5 c4 c14 c15 c18)) (fun c19 => (H6 c4 c14 c15 c19)))) (fun c17 => absurd c17 (by decide))))) (fun c20 c21 => absurd c21 (by decide)) (fun c22 c23 => absurd c22 (by decide))))))))) (fun c24 c25 => (B7 c4 c24 c25)) (fun c26 c27 => (vc_s (ct := fun pc => Nat.beq pc 38) 1000 false (And.intro (Nat.le_of_ble_eq_true rfl) (And.intro (Nat.le_of_ble_eq_true rfl) (And.intro (Nat.le_of_ble_eq_true rfl) (And.intro (Nat.le_of_ble_eq_true rfl) (r_T_isDigit_0 (v0 := (hG h q1 v5.toNatClampNeg)) (h := h) (fun c28 => (vc_s (ct := fun pc => Nat.beq pc 38) 1000 false (And.intro (fun c29 => (And.intro (fun c30 => (H8 c4 c26 c27 c28 c30)) (fun c31 => (H9 c4 c26 c27 c28 c31)))) (fun c29 => absurd c29 (by decide))))) (fun c32 c33 => (vc_s (ct := fun pc => Nat.beq pc 38) 1000 false (And.intro (fun c34 => (And.intro (fun c35 => (H10 c4 c26 c27 c32 c33 c35)) (fun c36 => (H11 c4 c26 c27 c32 c33 c36)))) (fun c34 => absurd c34 (by decide))))) (fun c37 c38 => (vc_s (ct := fun pc => Nat.beq pc 38) 1000 false (And.intro (fun c39 => absurd c39 (by decide)) (fun c39 => (And.intro k1 (And.intro (Nat.le_of_ble_eq_true rfl) (And.intro (Nat.le_of_ble_eq_true rfl) (And.intro (Nat.le_of_ble_eq_true rfl) (And.intro (Nat.le_of_ble_eq_true rfl) (r_T_signAt_0 (v0 := v0) (v1 := v5) (q1 := q1) (n1 := n1) (h := h) k1 k2 k3 (fun c40 => (vc_s (ct := fun pc => Nat.beq pc 38) 1000 false (And.intro (Nat.le_of_ble_eq_true rfl) (And.intro (Nat.le_of_ble_eq_true rfl) (H12 c4 c26 c27 c37 c38 c40))))) (fun c41 c42 => (vc_s (ct := fun pc => Nat.beq pc 38) 1000 false (And.intro (Nat.le_of_ble_eq_true rfl) (And.intro (Nat.le_of_ble_eq_true rfl) (H13 c4 c26 c27 c37 c38 c41 c42))))) (fun c43 c44 => (B14 c4 c26 c27 c37 c38 c43 c44)) (fun c45 c46 => (vc_s (ct := fun pc => Nat.beq pc 38) 1000 false (And.intro (Nat.le_of_ble_eq_true rfl) (And.intro (Nat.le_of_ble_eq_true rfl) (H15 c4 c26 c27 c37 c38 c45 c46))))) (fun c47 c48 => (B16 c4 c26 c27 c37 c38 c47 c48))))))))))))))))))) (fun c49 c50 => (B17 c4 c49 c50))))))))))
/-- SnapshotRings$Schedule.nextStep from 0 -/
theorem r_T_nextStep_0 {v0 : Nat} {v1 : Int32} {h : sn_H} {Q : Option Value → sn_H → Prop}
    (H1 : wpE 85 2 [some (.ref v0), none, some (.int v1)] [] h (0, 0) Q) :
    wpE 85 0 [some (.ref v0), some (.int v1), none] [] h (0, 0) Q :=
  vc_s (ct := fun pc => Nat.beq pc 2) 1000 false (And.intro (Nat.le_of_ble_eq_true rfl) (@wpE_w _ _ [some (.ref v0), none, some (.int v1)] _ _ _ _ _ (show LeL [some (.ref v0), none, some (.int v1)] [some (.ref v0), some (.int v1), some (.int v1)] from (And.intro rfl (And.intro rfl trivial))) H1))
/-- SnapshotRings$Schedule.nextStep from 2 -/
theorem r_T_nextStep_2 {v0 : Nat} {v2 : Int32} {q1 : Nat} {n1 : Nat} {h : sn_H} {Q : Option Value → sn_H → Prop}
    (k1 : hK h v0 = (0, 4, 2))
    (k2 : hR h v0 0 = some q1)
    (k3 : hK h q1 = (2, 0, n1))
    (H1 : (hG h v0 1) ≤ v2 → Q (some (.int (hG h v0 1))) h)
    (B2 : ¬ (hG h v0 1) ≤ v2 → vp_in v2 n1)
    (H3 : ¬ (hG h v0 1) ≤ v2 → ¬ (hG h q1 v2.toNatClampNeg) = nI 59 → wpE 85 2 [some (.ref v0), none, some (.int (v2 + nI 1))] [] h (0, 0) Q)
    (H4 : ¬ (hG h v0 1) ≤ v2 → (hG h q1 v2.toNatClampNeg) = nI 59 → Q (some (.int (v2 + nI 1))) h) :
    wpE 85 2 [some (.ref v0), none, some (.int v2)] [] h (0, 0) Q :=
  vc_s (ct := fun pc => Nat.beq pc 2) 1000 false (And.intro k1 (And.intro (fun c1 => (And.intro k1 (H1 c1))) (fun c2 => (And.intro k1 (Exists.intro q1 (And.intro k2 (Exists.intro n1 (And.intro k3 (And.intro (B2 c2) (And.intro (fun c3 => (And.intro (Nat.le_of_ble_eq_true rfl) (H3 c2 c3))) (fun c4 => (H4 c2 c4))))))))))))
/-- SnapshotRings$History.popInto from 0 -/
theorem r_H_popInto_0 {v0 : Nat} {v1 : Nat} {h : sn_H} {Q : Option Value → sn_H → Prop}
    (k1 : hK h v0 = (0, 2, 3))
    (H1 : wpE 87 26 [some (.ref v0), some (.ref v1)] [] (setG (setG h v0 2 ((((hG h v0 2) + nI 6) - nI 1) - (((hG h v0 2) + nI 6) - nI 1) / nI 6 * nI 6)) v0 1 ((hG (setG h v0 2 ((((hG h v0 2) + nI 6) - nI 1) - (((hG h v0 2) + nI 6) - nI 1) / nI 6 * nI 6)) v0 1) - nI 1)) (0, 0) Q) :
    wpE 87 0 [some (.ref v0), some (.ref v1)] [] h (0, 0) Q :=
  vc_s (ct := fun pc => Nat.beq pc 26) 1000 false (And.intro k1 (And.intro (by decide) (And.intro k1 (And.intro rfl (And.intro rfl (And.intro k1 (And.intro k1 (And.intro rfl H1))))))))
/-- SnapshotRings$History.popInto from 26 -/
theorem r_H_popInto_26 {v0 : Nat} {v1 : Nat} {q1 : Nat} {n1 : Nat} {q2 : Nat} {h : sn_H} {Q : Option Value → sn_H → Prop}
    (k1 : hK h v0 = (0, 2, 3))
    (k2 : hR h v0 0 = some q1)
    (k3 : hK h q1 = (4, 1, n1))
    (k4 : hR h q1 ((hG h v0 2).toNatClampNeg) = some q2)
    (k5 : hK h v1 = (0, 1, 14))
    (B1 : vp_in (hG h v0 2) n1)
    (H2 : wpE 7 0 [some (.ref v1), some (.ref q2)] [] h (0, 0) (fun r h => wpE 87 39 [none, none] (r.toList ++ []) h (0, 0) Q)) :
    wpE 87 26 [some (.ref v0), some (.ref v1)] [] h (0, 0) Q :=
  vc_s (ct := fun pc => Nat.beq pc 26) 1000 false (And.intro k1 (Exists.intro q1 (And.intro k2 (And.intro k1 (Exists.intro 1 (Exists.intro n1 (Exists.intro q2 (And.intro k3 (And.intro B1 (And.intro k4 (And.intro k5 (And.intro (Nat.le_of_ble_eq_true rfl) (And.intro (Nat.le_of_ble_eq_true rfl) (And.intro (Nat.le_of_ble_eq_true rfl) (And.intro (Nat.le_of_ble_eq_true rfl) (wpE_m (fun _ _ HH => @wpE_w _ _ [none, none] _ _ _ _ _ (show LeL [none, none] [some (.ref v0), some (.ref v1)] from trivial) HH) H2))))))))))))))))
/-- SnapshotRings$History.popInto from 39 -/
theorem r_H_popInto_39  {h : sn_H} {Q : Option Value → sn_H → Prop}
    (H1 : Q none h) :
    wpE 87 39 [none, none] [] h (0, 0) Q :=
  vc_s (ct := fun pc => Nat.beq pc 26) 1000 false (And.intro rfl H1)
/-- SnapshotRings.mixed from 0 -/
theorem r_X_mixed_0 {v0 : Int64} {v2 : Int64} {h : sn_H} {Q : Option Value → sn_H → Prop}
    (H1 : Q (some (.long ((lN 31 * v0) + v2))) h) :
    wpE 89 0 [some (.long v0), none, some (.long v2), none] [] h (0, 0) Q :=
  vc_s (ct := fun _ => false) 1000 false (And.intro rfl H1)
