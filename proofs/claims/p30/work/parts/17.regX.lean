/-! ===== regions of the methods, printed by wip/genp/mkregions.py ===== -/
/-- SnapshotRings.setPolicy from 0 -/
theorem r_X_setPolicy_0 {v0 : Nat} {v1 : Int32} {q1 : Nat} {q2 : Nat} {h : sn_H} {Q : Option Value → sn_H → Prop}
    (k1 : hK h v0 = (0, 0, 5))
    (k2 : hR h v0 2 = some q1)
    (k3 : hR h v0 0 = some q2)
    (k4 : hK h q1 = (0, 2, 3))
    (H1 : v1 < 0 → Q (some (.int (-(nI 20002)))) h)
    (H2 : ¬ v1 < 0 → v1 ≤ nI 2 → wpE 6 0 [some (.ref q1), some (.ref q2)] [] h (0, 0) (fun r hh => wpE 5 24 [some (.ref v0), some (.int v1), none] (r.toList ++ []) hh (0, 0) Q))
    (H3 : ¬ v1 < 0 → ¬ v1 ≤ nI 2 → Q (some (.int (-(nI 20002)))) h) :
    wpE 5 0 [some (.ref v0), some (.int v1), none] [] h (0, 0) Q :=
  vc_s (ct := fun _ => false) 1000 false (And.intro (fun c1 => (H1 c1)) (fun c2 => (And.intro (fun c3 => (And.intro k1 (Exists.intro q1 (And.intro k2 (And.intro k1 (Exists.intro q2 (And.intro k3 (And.intro k4 (And.intro (Nat.le_of_ble_eq_true rfl) (And.intro (Nat.le_of_ble_eq_true rfl) (And.intro (Nat.le_of_ble_eq_true rfl) (And.intro (Nat.le_of_ble_eq_true rfl) (H2 c2 c3))))))))))))) (fun c4 => (H3 c2 c4)))))
/-- SnapshotRings.setPolicy from 24 -/
theorem r_X_setPolicy_24 {v0 : Nat} {v1 : Int32} {q1 : Nat} {h : sn_H} {Q : Option Value → sn_H → Prop}
    (k1 : hK h v0 = (0, 0, 5))
    (k2 : hR h v0 0 = some q1)
    (k3 : hK h q1 = (0, 1, 14))
    (H1 : Q (some (.int (hG h q1 0))) (setG h q1 0 v1)) :
    wpE 5 24 [some (.ref v0), some (.int v1), none] [] h (0, 0) Q :=
  vc_s (ct := fun _ => false) 1000 false (And.intro k1 (Exists.intro q1 (And.intro k2 (And.intro k3 (And.intro (Nat.le_of_ble_eq_true rfl) (And.intro k1 (Exists.intro q1 (And.intro k2 (And.intro k3 (And.intro rfl H1))))))))))
/-- SnapshotRings.setConstraint from 0 -/
theorem r_X_setConstraint_0 {v0 : Nat} {v1 : Int32} {v2 : Int32} {v3 : Int32} {q1 : Nat} {q2 : Nat} {h : sn_H} {Q : Option Value → sn_H → Prop}
    (k1 : hK h v0 = (0, 0, 5))
    (k2 : hR h v0 2 = some q1)
    (k3 : hR h v0 0 = some q2)
    (k4 : hK h q1 = (0, 2, 3))
    (H1 : v1 < 0 → Q (some (.int (-(nI 20001)))) h)
    (H2 : ¬ v1 < 0 → nI 3 ≤ v1 → Q (some (.int (-(nI 20001)))) h)
    (H3 : ¬ v1 < 0 → ¬ nI 3 ≤ v1 → v2 < 0 → Q (some (.int (-(nI 20002)))) h)
    (H4 : ¬ v1 < 0 → ¬ nI 3 ≤ v1 → ¬ v2 < 0 → nI 4095 < v2 → Q (some (.int (-(nI 20002)))) h)
    (H5 : ¬ v1 < 0 → ¬ nI 3 ≤ v1 → ¬ v2 < 0 → ¬ nI 4095 < v2 → v3 < -(nI 9999) → Q (some (.int (-(nI 20002)))) h)
    (H6 : ¬ v1 < 0 → ¬ nI 3 ≤ v1 → ¬ v2 < 0 → ¬ nI 4095 < v2 → ¬ v3 < -(nI 9999) → v3 ≤ nI 9999 → wpE 6 0 [some (.ref q1), some (.ref q2)] [] h (0, 0) (fun r hh => wpE 8 51 [some (.ref v0), some (.int v1), some (.int v2), some (.int v3), none] (r.toList ++ []) hh (0, 0) Q))
    (H7 : ¬ v1 < 0 → ¬ nI 3 ≤ v1 → ¬ v2 < 0 → ¬ nI 4095 < v2 → ¬ v3 < -(nI 9999) → ¬ v3 ≤ nI 9999 → Q (some (.int (-(nI 20002)))) h) :
    wpE 8 0 [some (.ref v0), some (.int v1), some (.int v2), some (.int v3), none] [] h (0, 0) Q :=
  vc_s (ct := fun _ => false) 1000 false (And.intro (Nat.le_of_ble_eq_true rfl) (And.intro (Nat.le_of_ble_eq_true rfl) (And.intro (Nat.le_of_ble_eq_true rfl) (And.intro (Nat.le_of_ble_eq_true rfl) (r_X_isConstraint_0 (v0 := v1) (h := h) (fun c1 => (vc_s (ct := fun _ => false) 1000 false (And.intro (fun c2 => absurd c2 (by decide)) (fun c2 => (H1 c1))))) (fun c3 c4 => (vc_s (ct := fun _ => false) 1000 false (And.intro (fun c5 => absurd c5 (by decide)) (fun c5 => (H2 c3 c4))))) (fun c6 c7 => (vc_s (ct := fun _ => false) 1000 false (And.intro (fun c8 => (And.intro (fun c9 => (H3 c6 c7 c9)) (fun c10 => (And.intro (fun c11 => (H4 c6 c7 c10 c11)) (fun c12 => (And.intro (fun c13 => (H5 c6 c7 c10 c12 c13)) (fun c14 => (And.intro (fun c15 => (And.intro k1 (Exists.intro q1 (And.intro k2 (And.intro k1 (Exists.intro q2 (And.intro k3 (And.intro k4 (And.intro (Nat.le_of_ble_eq_true rfl) (And.intro (Nat.le_of_ble_eq_true rfl) (And.intro (Nat.le_of_ble_eq_true rfl) (And.intro (Nat.le_of_ble_eq_true rfl) (H6 c6 c7 c10 c12 c14 c15))))))))))))) (fun c16 => (H7 c6 c7 c10 c12 c14 c16)))))))))) (fun c8 => absurd c8 (by decide))))))))))
/-- SnapshotRings.setConstraint from 51 -/
theorem r_X_setConstraint_51 {v0 : Nat} {v1 : Int32} {v2 : Int32} {v3 : Int32} {q1 : Nat} {q2 : Nat} {n1 : Nat} {q3 : Nat} {n2 : Nat} {h : sn_H} {Q : Option Value → sn_H → Prop}
    (k1 : hK h v0 = (0, 0, 5))
    (k2 : hR h v0 0 = some q1)
    (k3 : hK h q1 = (0, 1, 14))
    (k4 : hR h q1 6 = some q2)
    (k5 : hK h q2 = (1, 0, n1))
    (k6 : hR h q1 5 = some q3)
    (k7 : hK h q3 = (1, 0, n2))
    (B1 : vp_in v1 n1)
    (B2 : vp_in v1 n2)
    (H3 : Q (some (.int (hG h q2 v1.toNatClampNeg))) (setG (setG h q3 v1.toNatClampNeg v2) q2 v1.toNatClampNeg v3)) :
    wpE 8 51 [some (.ref v0), some (.int v1), some (.int v2), some (.int v3), none] [] h (0, 0) Q :=
  vc_s (ct := fun _ => false) 1000 false (And.intro k1 (Exists.intro q1 (And.intro k2 (And.intro k3 (Exists.intro q2 (And.intro k4 (Exists.intro 0 (Exists.intro n1 (And.intro k5 (And.intro B1 (And.intro (Nat.le_of_ble_eq_true rfl) (And.intro k1 (Exists.intro q1 (And.intro k2 (And.intro k3 (Exists.intro q3 (And.intro k6 (Exists.intro n2 (And.intro k7 (And.intro B2 (And.intro k1 (Exists.intro q1 (And.intro k2 (And.intro k3 (Exists.intro q2 (And.intro k4 (Exists.intro n1 (And.intro k5 (And.intro B1 H3)))))))))))))))))))))))))))))
/-- SnapshotRings.errorOfBegin from 0 -/
theorem r_X_errorOfBegin_0 {v0 : Nat} {v1 : Int32} {q1 : Nat} {h : sn_H} {Q : Option Value → sn_H → Prop}
    (k1 : hK h v0 = (0, 0, 5))
    (k2 : hR h v0 0 = some q1)
    (k3 : hK h q1 = (0, 1, 14))
    (H1 : v1 < 0 → Q (some (.int (-(nI 20001)))) h)
    (H2 : ¬ v1 < 0 → nI 8 ≤ v1 → Q (some (.int (-(nI 20001)))) h)
    (H3 : ¬ v1 < 0 → ¬ nI 8 ≤ v1 → ¬ (((hG h q1 3) >>> (v1 &&& 31)) &&& nI 1) = nI 1 → Q (some (.int (nI 0))) h)
    (H4 : ¬ v1 < 0 → ¬ nI 8 ≤ v1 → (((hG h q1 3) >>> (v1 &&& 31)) &&& nI 1) = nI 1 → Q (some (.int (-(nI 20003)))) h) :
    wpE 11 0 [some (.ref v0), some (.int v1)] [] h (0, 0) Q :=
  vc_s (ct := fun _ => false) 1000 false (And.intro (Nat.le_of_ble_eq_true rfl) (And.intro (Nat.le_of_ble_eq_true rfl) (And.intro (Nat.le_of_ble_eq_true rfl) (And.intro (Nat.le_of_ble_eq_true rfl) (r_X_isSlot_0 (v0 := v1) (h := h) (fun c1 => (vc_s (ct := fun _ => false) 1000 false (And.intro (fun c2 => absurd c2 (by decide)) (fun c2 => (H1 c1))))) (fun c3 c4 => (vc_s (ct := fun _ => false) 1000 false (And.intro (fun c5 => absurd c5 (by decide)) (fun c5 => (H2 c3 c4))))) (fun c6 c7 => (vc_s (ct := fun _ => false) 1000 false (And.intro (fun c8 => (And.intro k1 (Exists.intro q1 (And.intro k2 (And.intro k3 (And.intro (Nat.le_of_ble_eq_true rfl) (And.intro (Nat.le_of_ble_eq_true rfl) (And.intro (Nat.le_of_ble_eq_true rfl) (And.intro (Nat.le_of_ble_eq_true rfl) (r_S_isOpen_0 (v0 := q1) (v1 := v1) (h := h) k3 (fun c9 => (vc_s (ct := fun _ => false) 1000 false (And.intro (fun c10 => (H3 c6 c7 c9)) (fun c10 => absurd c10 (by decide))))) (fun c11 => (vc_s (ct := fun _ => false) 1000 false (And.intro (fun c12 => absurd c12 (by decide)) (fun c12 => (H4 c6 c7 c11))))))))))))))) (fun c8 => absurd c8 (by decide))))))))))
/-- SnapshotRings.begin from 0 -/
theorem r_X_begin_0 {v0 : Nat} {v1 : Int32} {h : sn_H} {Q : Option Value → sn_H → Prop}
    (k1 : hK h v0 = (0, 0, 5))
    (H1 : wpE 11 0 [some (.ref v0), some (.int v1)] [] h (0, 0) (fun r hh => wpE 10 5 [some (.ref v0), some (.int v1), none] (r.toList ++ []) hh (0, 0) Q)) :
    wpE 10 0 [some (.ref v0), some (.int v1), none] [] h (0, 0) Q :=
  vc_s (ct := fun _ => false) 1000 false (And.intro k1 (And.intro (Nat.le_of_ble_eq_true rfl) (And.intro (Nat.le_of_ble_eq_true rfl) (And.intro (Nat.le_of_ble_eq_true rfl) (And.intro (Nat.le_of_ble_eq_true rfl) H1)))))
/-- SnapshotRings.begin from 5 -/
theorem r_X_begin_5 {v0 : Nat} {v1 : Int32} {s0 : Int32} {q1 : Nat} {q2 : Nat} {h : sn_H} {Q : Option Value → sn_H → Prop}
    (k1 : hK h v0 = (0, 0, 5))
    (k2 : hR h v0 2 = some q1)
    (k3 : hR h v0 0 = some q2)
    (k4 : hK h q1 = (0, 2, 3))
    (H1 : s0 = 0 → wpE 6 0 [some (.ref q1), some (.ref q2)] [] h (0, 0) (fun r hh => wpE 10 23 [some (.ref v0), some (.int v1), none] (r.toList ++ []) hh (0, 0) Q))
    (H2 : ¬ s0 = 0 → Q (some (.int s0)) h) :
    wpE 10 5 [some (.ref v0), some (.int v1), none] [.int s0] h (0, 0) Q :=
  vc_s (ct := fun _ => false) 1000 false (And.intro (Nat.le_of_ble_eq_true rfl) (And.intro (fun c1 => (And.intro k1 (Exists.intro q1 (And.intro k2 (And.intro k1 (Exists.intro q2 (And.intro k3 (And.intro k4 (And.intro (Nat.le_of_ble_eq_true rfl) (And.intro (Nat.le_of_ble_eq_true rfl) (And.intro (Nat.le_of_ble_eq_true rfl) (And.intro (Nat.le_of_ble_eq_true rfl) (wpE_m (fun _ _ HH => @wpE_w _ _ [some (.ref v0), some (.int v1), none] _ _ _ _ _ (show LeL [some (.ref v0), some (.int v1), none] [some (.ref v0), some (.int v1), some (.int s0)] from (And.intro rfl (And.intro rfl trivial))) HH) (H1 c1)))))))))))))) (fun c2 => (H2 c2))))
/-- SnapshotRings.begin from 23 -/
theorem r_X_begin_23 {v0 : Nat} {v1 : Int32} {q1 : Nat} {h : sn_H} {Q : Option Value → sn_H → Prop}
    (k1 : hK h v0 = (0, 0, 5))
    (k2 : hR h v0 0 = some q1)
    (k3 : hK h q1 = (0, 1, 14))
    (H1 : wpE 15 0 [some (.ref q1), some (.int v1)] [] h (0, 0) (fun r hh => wpE 10 31 [none, none, none] (r.toList ++ []) hh (0, 0) Q)) :
    wpE 10 23 [some (.ref v0), some (.int v1), none] [] h (0, 0) Q :=
  vc_s (ct := fun _ => false) 1000 false (And.intro k1 (Exists.intro q1 (And.intro k2 (And.intro k3 (And.intro (Nat.le_of_ble_eq_true rfl) (And.intro (Nat.le_of_ble_eq_true rfl) (And.intro (Nat.le_of_ble_eq_true rfl) (And.intro (Nat.le_of_ble_eq_true rfl) (wpE_m (fun _ _ HH => @wpE_w _ _ [none, none, none] _ _ _ _ _ (show LeL [none, none, none] [some (.ref v0), some (.int v1), none] from trivial) HH) H1)))))))))
/-- SnapshotRings.begin from 31 -/
theorem r_X_begin_31 {s0 : Int32} {h : sn_H} {Q : Option Value → sn_H → Prop}
    (H1 : Q (some (.int s0)) h) :
    wpE 10 31 [none, none, none] [.int s0] h (0, 0) Q :=
  vc_s (ct := fun _ => false) 1000 false H1
/-- SnapshotRings.errorOfSlot from 0 -/
theorem r_X_errorOfSlot_0 {v0 : Nat} {v1 : Int32} {q1 : Nat} {h : sn_H} {Q : Option Value → sn_H → Prop}
    (k1 : hK h v0 = (0, 0, 5))
    (k2 : hR h v0 0 = some q1)
    (k3 : hK h q1 = (0, 1, 14))
    (H1 : v1 < 0 → Q (some (.int (-(nI 20001)))) h)
    (H2 : ¬ v1 < 0 → nI 8 ≤ v1 → Q (some (.int (-(nI 20001)))) h)
    (H3 : ¬ v1 < 0 → ¬ nI 8 ≤ v1 → ¬ (((hG h q1 3) >>> (v1 &&& 31)) &&& nI 1) = nI 1 → Q (some (.int (-(nI 20001)))) h)
    (H4 : ¬ v1 < 0 → ¬ nI 8 ≤ v1 → (((hG h q1 3) >>> (v1 &&& 31)) &&& nI 1) = nI 1 → Q (some (.int (nI 0))) h) :
    wpE 19 0 [some (.ref v0), some (.int v1)] [] h (0, 0) Q :=
  vc_s (ct := fun _ => false) 1000 false (And.intro (Nat.le_of_ble_eq_true rfl) (And.intro (Nat.le_of_ble_eq_true rfl) (And.intro (Nat.le_of_ble_eq_true rfl) (And.intro (Nat.le_of_ble_eq_true rfl) (r_X_isSlot_0 (v0 := v1) (h := h) (fun c1 => (vc_s (ct := fun _ => false) 1000 false (And.intro (fun c2 => (H1 c1)) (fun c2 => absurd c2 (by decide))))) (fun c3 c4 => (vc_s (ct := fun _ => false) 1000 false (And.intro (fun c5 => (H2 c3 c4)) (fun c5 => absurd c5 (by decide))))) (fun c6 c7 => (vc_s (ct := fun _ => false) 1000 false (And.intro (fun c8 => absurd c8 (by decide)) (fun c8 => (And.intro k1 (Exists.intro q1 (And.intro k2 (And.intro k3 (And.intro (Nat.le_of_ble_eq_true rfl) (And.intro (Nat.le_of_ble_eq_true rfl) (And.intro (Nat.le_of_ble_eq_true rfl) (And.intro (Nat.le_of_ble_eq_true rfl) (r_S_isOpen_0 (v0 := q1) (v1 := v1) (h := h) k3 (fun c9 => (vc_s (ct := fun _ => false) 1000 false (And.intro (fun c10 => (H3 c6 c7 c9)) (fun c10 => absurd c10 (by decide))))) (fun c11 => (vc_s (ct := fun _ => false) 1000 false (And.intro (fun c12 => absurd c12 (by decide)) (fun c12 => (H4 c6 c7 c11)))))))))))))))))))))))
/-- SnapshotRings.errorOfRead from 0 -/
theorem r_X_errorOfRead_0 {v0 : Nat} {v1 : Int32} {v2 : Int32} {q1 : Nat} {h : sn_H} {Q : Option Value → sn_H → Prop}
    (k1 : hK h v0 = (0, 0, 5))
    (k2 : hR h v0 0 = some q1)
    (k3 : hK h q1 = (0, 1, 14))
    (H1 : v2 < 0 → Q (some (.int (-(nI 20001)))) h)
    (H2 : ¬ v2 < 0 → nI 12 ≤ v2 → Q (some (.int (-(nI 20001)))) h)
    (H3 : ¬ v2 < 0 → ¬ nI 12 ≤ v2 → v1 < 0 → Q (some (.int (-(nI 20001)))) h)
    (H4 : ¬ v2 < 0 → ¬ nI 12 ≤ v2 → ¬ v1 < 0 → nI 8 ≤ v1 → Q (some (.int (-(nI 20001)))) h)
    (H5 : ¬ v2 < 0 → ¬ nI 12 ≤ v2 → ¬ v1 < 0 → ¬ nI 8 ≤ v1 → ¬ (((hG h q1 3) >>> (v1 &&& 31)) &&& nI 1) = nI 1 → Q (some (.int (-(nI 20001)))) h)
    (H6 : ¬ v2 < 0 → ¬ nI 12 ≤ v2 → ¬ v1 < 0 → ¬ nI 8 ≤ v1 → (((hG h q1 3) >>> (v1 &&& 31)) &&& nI 1) = nI 1 → Q (some (.int (nI 0))) h) :
    wpE 17 0 [some (.ref v0), some (.int v1), some (.int v2)] [] h (0, 0) Q :=
  vc_s (ct := fun _ => false) 1000 false (And.intro (Nat.le_of_ble_eq_true rfl) (And.intro (Nat.le_of_ble_eq_true rfl) (And.intro (Nat.le_of_ble_eq_true rfl) (And.intro (Nat.le_of_ble_eq_true rfl) (r_X_isKey_0 (v0 := v2) (h := h) (fun c1 => (vc_s (ct := fun _ => false) 1000 false (And.intro (fun c2 => (H1 c1)) (fun c2 => absurd c2 (by decide))))) (fun c3 c4 => (vc_s (ct := fun _ => false) 1000 false (And.intro (fun c5 => (H2 c3 c4)) (fun c5 => absurd c5 (by decide))))) (fun c6 c7 => (vc_s (ct := fun _ => false) 1000 false (And.intro (fun c8 => absurd c8 (by decide)) (fun c8 => (And.intro k1 (And.intro (Nat.le_of_ble_eq_true rfl) (And.intro (Nat.le_of_ble_eq_true rfl) (And.intro (Nat.le_of_ble_eq_true rfl) (And.intro (Nat.le_of_ble_eq_true rfl) (r_X_errorOfSlot_0 (v0 := v0) (v1 := v1) (q1 := q1) (h := h) k1 k2 k3 (fun c9 => (vc_s (ct := fun _ => false) 1000 false (H3 c6 c7 c9))) (fun c10 c11 => (vc_s (ct := fun _ => false) 1000 false (H4 c6 c7 c10 c11))) (fun c12 c13 c14 => (vc_s (ct := fun _ => false) 1000 false (H5 c6 c7 c12 c13 c14))) (fun c15 c16 c17 => (vc_s (ct := fun _ => false) 1000 false (H6 c6 c7 c15 c16 c17))))))))))))))))))
/-- SnapshotRings.read from 0 -/
theorem r_X_read_0 {v0 : Nat} {v1 : Int32} {v2 : Int32} {h : sn_H} {Q : Option Value → sn_H → Prop}
    (k1 : hK h v0 = (0, 0, 5))
    (H1 : wpE 17 0 [some (.ref v0), some (.int v1), some (.int v2)] [] h (0, 0) (fun r hh => wpE 16 6 [some (.ref v0), some (.int v1), some (.int v2), none] (r.toList ++ []) hh (0, 0) Q)) :
    wpE 16 0 [some (.ref v0), some (.int v1), some (.int v2), none] [] h (0, 0) Q :=
  vc_s (ct := fun _ => false) 1000 false (And.intro k1 (And.intro (Nat.le_of_ble_eq_true rfl) (And.intro (Nat.le_of_ble_eq_true rfl) (And.intro (Nat.le_of_ble_eq_true rfl) (And.intro (Nat.le_of_ble_eq_true rfl) H1)))))
/-- SnapshotRings.read from 6 -/
theorem r_X_read_6 {v0 : Nat} {v1 : Int32} {v2 : Int32} {s0 : Int32} {q1 : Nat} {q2 : Nat} {h : sn_H} {Q : Option Value → sn_H → Prop}
    (k1 : hK h v0 = (0, 0, 5))
    (k2 : hR h v0 2 = some q1)
    (k3 : hR h v0 0 = some q2)
    (k4 : hK h q1 = (0, 2, 3))
    (H1 : s0 = 0 → wpE 6 0 [some (.ref q1), some (.ref q2)] [] h (0, 0) (fun r hh => wpE 16 24 [some (.ref v0), some (.int v1), some (.int v2), none] (r.toList ++ []) hh (0, 0) Q))
    (H2 : ¬ s0 = 0 → Q (some (.int s0)) h) :
    wpE 16 6 [some (.ref v0), some (.int v1), some (.int v2), none] [.int s0] h (0, 0) Q :=
  vc_s (ct := fun _ => false) 1000 false (And.intro (Nat.le_of_ble_eq_true rfl) (And.intro (fun c1 => (And.intro k1 (Exists.intro q1 (And.intro k2 (And.intro k1 (Exists.intro q2 (And.intro k3 (And.intro k4 (And.intro (Nat.le_of_ble_eq_true rfl) (And.intro (Nat.le_of_ble_eq_true rfl) (And.intro (Nat.le_of_ble_eq_true rfl) (And.intro (Nat.le_of_ble_eq_true rfl) (wpE_m (fun _ _ HH => @wpE_w _ _ [some (.ref v0), some (.int v1), some (.int v2), none] _ _ _ _ _ (show LeL [some (.ref v0), some (.int v1), some (.int v2), none] [some (.ref v0), some (.int v1), some (.int v2), some (.int s0)] from (And.intro rfl (And.intro rfl (And.intro rfl trivial)))) HH) (H1 c1)))))))))))))) (fun c2 => (H2 c2))))
/-- SnapshotRings.read from 24 -/
theorem r_X_read_24 {v0 : Nat} {v1 : Int32} {v2 : Int32} {q1 : Nat} {h : sn_H} {Q : Option Value → sn_H → Prop}
    (k1 : hK h v0 = (0, 0, 5))
    (k2 : hR h v0 0 = some q1)
    (k3 : hK h q1 = (0, 1, 14))
    (H1 : wpE 20 0 [some (.ref q1), some (.int v1), some (.int v2)] [] h (0, 0) (fun r hh => wpE 16 33 [none, none, none, none] (r.toList ++ []) hh (0, 0) Q)) :
    wpE 16 24 [some (.ref v0), some (.int v1), some (.int v2), none] [] h (0, 0) Q :=
  vc_s (ct := fun _ => false) 1000 false (And.intro k1 (Exists.intro q1 (And.intro k2 (And.intro k3 (And.intro (Nat.le_of_ble_eq_true rfl) (And.intro (Nat.le_of_ble_eq_true rfl) (And.intro (Nat.le_of_ble_eq_true rfl) (And.intro (Nat.le_of_ble_eq_true rfl) (wpE_m (fun _ _ HH => @wpE_w _ _ [none, none, none, none] _ _ _ _ _ (show LeL [none, none, none, none] [some (.ref v0), some (.int v1), some (.int v2), none] from trivial) HH) H1)))))))))
/-- SnapshotRings.read from 33 -/
theorem r_X_read_33 {s0 : Int32} {h : sn_H} {Q : Option Value → sn_H → Prop}
    (H1 : Q (some (.int s0)) h) :
    wpE 16 33 [none, none, none, none] [.int s0] h (0, 0) Q :=
  vc_s (ct := fun _ => false) 1000 false H1
/-- SnapshotRings.errorOfWrite from 0 -/
theorem r_X_errorOfWrite_0 {v0 : Nat} {v1 : Int32} {v2 : Int32} {v3 : Int32} {h : sn_H} {Q : Option Value → sn_H → Prop}
    (k1 : hK h v0 = (0, 0, 5))
    (H1 : wpE 17 0 [some (.ref v0), some (.int v1), some (.int v2)] [] h (0, 0) (fun r hh => wpE 22 6 [none, none, none, some (.int v3), none] (r.toList ++ []) hh (0, 0) Q)) :
    wpE 22 0 [some (.ref v0), some (.int v1), some (.int v2), some (.int v3), none] [] h (0, 0) Q :=
  vc_s (ct := fun _ => false) 1000 false (And.intro k1 (And.intro (Nat.le_of_ble_eq_true rfl) (And.intro (Nat.le_of_ble_eq_true rfl) (And.intro (Nat.le_of_ble_eq_true rfl) (And.intro (Nat.le_of_ble_eq_true rfl) (wpE_m (fun _ _ HH => @wpE_w _ _ [none, none, none, some (.int v3), none] _ _ _ _ _ (show LeL [none, none, none, some (.int v3), none] [some (.ref v0), some (.int v1), some (.int v2), some (.int v3), none] from (And.intro rfl trivial)) HH) H1))))))
/-- SnapshotRings.errorOfWrite from 6 -/
theorem r_X_errorOfWrite_6 {v3 : Int32} {s0 : Int32} {h : sn_H} {Q : Option Value → sn_H → Prop}
    (H1 : s0 = 0 → v3 < -(nI 999) → Q (some (.int (-(nI 20002)))) h)
    (H2 : s0 = 0 → ¬ v3 < -(nI 999) → v3 ≤ nI 999 → Q (some (.int (nI 0))) h)
    (H3 : s0 = 0 → ¬ v3 < -(nI 999) → ¬ v3 ≤ nI 999 → Q (some (.int (-(nI 20002)))) h)
    (H4 : ¬ s0 = 0 → Q (some (.int s0)) h) :
    wpE 22 6 [none, none, none, some (.int v3), none] [.int s0] h (0, 0) Q :=
  vc_s (ct := fun _ => false) 1000 false (And.intro (Nat.le_of_ble_eq_true rfl) (And.intro (fun c1 => (And.intro (fun c2 => (H1 c1 c2)) (fun c3 => (And.intro (fun c4 => (H2 c1 c3 c4)) (fun c5 => (H3 c1 c3 c5)))))) (fun c6 => (H4 c6))))
/-- SnapshotRings.write from 0 -/
theorem r_X_write_0 {v0 : Nat} {v1 : Int32} {v2 : Int32} {v3 : Int32} {h : sn_H} {Q : Option Value → sn_H → Prop}
    (k1 : hK h v0 = (0, 0, 5))
    (H1 : wpE 22 0 [some (.ref v0), some (.int v1), some (.int v2), some (.int v3), none] [] h (0, 0) (fun r hh => wpE 21 7 [some (.ref v0), some (.int v1), some (.int v2), some (.int v3), none] (r.toList ++ []) hh (0, 0) Q)) :
    wpE 21 0 [some (.ref v0), some (.int v1), some (.int v2), some (.int v3), none] [] h (0, 0) Q :=
  vc_s (ct := fun _ => false) 1000 false (And.intro k1 (And.intro (Nat.le_of_ble_eq_true rfl) (And.intro (Nat.le_of_ble_eq_true rfl) (And.intro (Nat.le_of_ble_eq_true rfl) (And.intro (Nat.le_of_ble_eq_true rfl) H1)))))
/-- SnapshotRings.write from 7 -/
theorem r_X_write_7 {v0 : Nat} {v1 : Int32} {v2 : Int32} {v3 : Int32} {s0 : Int32} {q1 : Nat} {q2 : Nat} {h : sn_H} {Q : Option Value → sn_H → Prop}
    (k1 : hK h v0 = (0, 0, 5))
    (k2 : hR h v0 2 = some q1)
    (k3 : hR h v0 0 = some q2)
    (k4 : hK h q1 = (0, 2, 3))
    (H1 : s0 = 0 → wpE 6 0 [some (.ref q1), some (.ref q2)] [] h (0, 0) (fun r hh => wpE 21 28 [some (.ref v0), some (.int v1), some (.int v2), some (.int v3), none] (r.toList ++ []) hh (0, 0) Q))
    (H2 : ¬ s0 = 0 → Q (some (.int s0)) h) :
    wpE 21 7 [some (.ref v0), some (.int v1), some (.int v2), some (.int v3), none] [.int s0] h (0, 0) Q :=
  vc_s (ct := fun _ => false) 1000 false (And.intro (Nat.le_of_ble_eq_true rfl) (And.intro (fun c1 => (And.intro k1 (Exists.intro q1 (And.intro k2 (And.intro k1 (Exists.intro q2 (And.intro k3 (And.intro k4 (And.intro (Nat.le_of_ble_eq_true rfl) (And.intro (Nat.le_of_ble_eq_true rfl) (And.intro (Nat.le_of_ble_eq_true rfl) (And.intro (Nat.le_of_ble_eq_true rfl) (wpE_m (fun _ _ HH => @wpE_w _ _ [some (.ref v0), some (.int v1), some (.int v2), some (.int v3), none] _ _ _ _ _ (show LeL [some (.ref v0), some (.int v1), some (.int v2), some (.int v3), none] [some (.ref v0), some (.int v1), some (.int v2), some (.int v3), some (.int s0)] from (And.intro rfl (And.intro rfl (And.intro rfl (And.intro rfl trivial))))) HH) (H1 c1)))))))))))))) (fun c2 => (H2 c2))))
/-- SnapshotRings.write from 28 -/
theorem r_X_write_28 {v0 : Nat} {v1 : Int32} {v2 : Int32} {v3 : Int32} {q1 : Nat} {h : sn_H} {Q : Option Value → sn_H → Prop}
    (k1 : hK h v0 = (0, 0, 5))
    (k2 : hR h v0 0 = some q1)
    (k3 : hK h q1 = (0, 1, 14))
    (H1 : wpE 23 0 [some (.ref q1), some (.int v1), some (.int v2), some (.int v3)] [] h (0, 0) (fun r hh => wpE 21 38 [none, none, none, none, none] (r.toList ++ []) hh (0, 0) Q)) :
    wpE 21 28 [some (.ref v0), some (.int v1), some (.int v2), some (.int v3), none] [] h (0, 0) Q :=
  vc_s (ct := fun _ => false) 1000 false (And.intro k1 (Exists.intro q1 (And.intro k2 (And.intro k3 (And.intro (Nat.le_of_ble_eq_true rfl) (And.intro (Nat.le_of_ble_eq_true rfl) (And.intro (Nat.le_of_ble_eq_true rfl) (And.intro (Nat.le_of_ble_eq_true rfl) (wpE_m (fun _ _ HH => @wpE_w _ _ [none, none, none, none, none] _ _ _ _ _ (show LeL [none, none, none, none, none] [some (.ref v0), some (.int v1), some (.int v2), some (.int v3), none] from trivial) HH) H1)))))))))
/-- SnapshotRings.write from 38 -/
theorem r_X_write_38 {s0 : Int32} {h : sn_H} {Q : Option Value → sn_H → Prop}
    (H1 : Q (some (.int s0)) h) :
    wpE 21 38 [none, none, none, none, none] [.int s0] h (0, 0) Q :=
  vc_s (ct := fun _ => false) 1000 false H1
/-- SnapshotRings.reasonToRefuse from 0 -/
theorem r_X_reasonToRefuse_0 {v0 : Nat} {v1 : Nat} {v2 : Int32} {v3 : Int32} {h : sn_H} {Q : Option Value → sn_H → Prop}
    (k1 : hK h v1 = (0, 1, 14))
    (H1 : wpE 28 0 [some (.ref v1), some (.int v2), none] [] h (0, 0) (fun r hh => wpE 27 5 [some (.ref v0), some (.ref v1), some (.int v2), some (.int v3)] (r.toList ++ []) hh (0, 0) Q)) :
    wpE 27 0 [some (.ref v0), some (.ref v1), some (.int v2), some (.int v3)] [] h (0, 0) Q :=
  vc_s (ct := fun _ => false) 1000 false (And.intro k1 (And.intro (Nat.le_of_ble_eq_true rfl) (And.intro (Nat.le_of_ble_eq_true rfl) (And.intro (Nat.le_of_ble_eq_true rfl) (And.intro (Nat.le_of_ble_eq_true rfl) H1)))))
/-- SnapshotRings.reasonToRefuse from 5 -/
theorem r_X_reasonToRefuse_5 {v0 : Nat} {v1 : Nat} {v2 : Int32} {v3 : Int32} {s0 : Int32} {q1 : Nat} {h : sn_H} {Q : Option Value → sn_H → Prop}
    (k1 : hK h v0 = (0, 0, 5))
    (k2 : hR h v0 3 = some q1)
    (k3 : hK h q1 = (0, 3, 10))
    (H1 : s0 = 0 → nI 1 ≤ v3 → wpE 29 0 [some (.ref q1), some (.ref v1), none, none, none] [] h (0, 0) (fun r hh => wpE 27 25 [some (.ref v0), some (.ref v1), some (.int v2), some (.int v3)] (r.toList ++ []) hh (0, 0) Q))
    (H2 : s0 = 0 → ¬ nI 1 ≤ v3 → Q (some (.int (nI 0))) h)
    (H3 : ¬ s0 = 0 → Q (some (.int (nI 1))) h) :
    wpE 27 5 [some (.ref v0), some (.ref v1), some (.int v2), some (.int v3)] [.int s0] h (0, 0) Q :=
  vc_s (ct := fun _ => false) 1000 false (And.intro (fun c1 => (And.intro (fun c2 => (And.intro k1 (Exists.intro q1 (And.intro k2 (And.intro k3 (And.intro (Nat.le_of_ble_eq_true rfl) (And.intro (Nat.le_of_ble_eq_true rfl) (And.intro (Nat.le_of_ble_eq_true rfl) (And.intro (Nat.le_of_ble_eq_true rfl) (H1 c1 c2)))))))))) (fun c3 => (H2 c1 c3)))) (fun c4 => (H3 c4)))
/-- SnapshotRings.reasonToRefuse from 25 -/
theorem r_X_reasonToRefuse_25 {v0 : Nat} {v1 : Nat} {v2 : Int32} {v3 : Int32} {q1 : Nat} {h : sn_H} {Q : Option Value → sn_H → Prop}
    (k1 : hK h v0 = (0, 0, 5))
    (k2 : hR h v0 3 = some q1)
    (k3 : hK h q1 = (0, 3, 10))
    (H1 : wpE 35 0 [some (.ref q1), some (.ref v1), some (.int v2), none, none] [] h (0, 0) (fun r hh => wpE 27 34 [some (.ref v0), none, none, some (.int v3)] (r.toList ++ []) hh (0, 0) Q)) :
    wpE 27 25 [some (.ref v0), some (.ref v1), some (.int v2), some (.int v3)] [] h (0, 0) Q :=
  vc_s (ct := fun _ => false) 1000 false (And.intro k1 (Exists.intro q1 (And.intro k2 (And.intro k3 (And.intro (Nat.le_of_ble_eq_true rfl) (And.intro (Nat.le_of_ble_eq_true rfl) (And.intro (Nat.le_of_ble_eq_true rfl) (And.intro (Nat.le_of_ble_eq_true rfl) (wpE_m (fun _ _ HH => @wpE_w _ _ [some (.ref v0), none, none, some (.int v3)] _ _ _ _ _ (show LeL [some (.ref v0), none, none, some (.int v3)] [some (.ref v0), some (.ref v1), some (.int v2), some (.int v3)] from (And.intro rfl (And.intro rfl trivial))) HH) H1)))))))))
/-- SnapshotRings.reasonToRefuse from 34 -/
theorem r_X_reasonToRefuse_34 {v0 : Nat} {v3 : Int32} {q1 : Nat} {h : sn_H} {Q : Option Value → sn_H → Prop}
    (k1 : hK h v0 = (0, 0, 5))
    (k2 : hR h v0 3 = some q1)
    (k3 : hK h q1 = (0, 3, 10))
    (H1 : wpE 36 0 [some (.ref q1), none, none, none, none] [] h (0, 0) (fun r hh => wpE 27 41 [some (.ref v0), none, none, some (.int v3)] (r.toList ++ []) hh (0, 0) Q)) :
    wpE 27 34 [some (.ref v0), none, none, some (.int v3)] [] h (0, 0) Q :=
  vc_s (ct := fun _ => false) 1000 false (And.intro k1 (Exists.intro q1 (And.intro k2 (And.intro k3 (And.intro (Nat.le_of_ble_eq_true rfl) (And.intro (Nat.le_of_ble_eq_true rfl) (And.intro (Nat.le_of_ble_eq_true rfl) (And.intro (Nat.le_of_ble_eq_true rfl) H1))))))))
/-- SnapshotRings.reasonToRefuse from 41 -/
theorem r_X_reasonToRefuse_41 {v0 : Nat} {v3 : Int32} {q1 : Nat} {h : sn_H} {Q : Option Value → sn_H → Prop}
    (k1 : hK h v0 = (0, 0, 5))
    (k2 : hR h v0 3 = some q1)
    (k3 : hK h q1 = (0, 3, 10))
    (H1 : (hG h q1 9) ≤ 0 → nI 2 ≤ v3 → wpE 40 0 [some (.ref q1), none, none, none, none, none] [] h (0, 0) (fun r hh => wpE 27 67 [none, none, none, none] (r.toList ++ []) hh (0, 0) Q))
    (H2 : (hG h q1 9) ≤ 0 → ¬ nI 2 ≤ v3 → Q (some (.int (nI 0))) h)
    (H3 : ¬ (hG h q1 9) ≤ 0 → Q (some (.int (nI 2))) h) :
    wpE 27 41 [some (.ref v0), none, none, some (.int v3)] [] h (0, 0) Q :=
  vc_s (ct := fun _ => false) 1000 false (And.intro k1 (Exists.intro q1 (And.intro k2 (And.intro k3 (And.intro (fun c1 => (And.intro (fun c2 => (And.intro k1 (Exists.intro q1 (And.intro k2 (And.intro k3 (And.intro (Nat.le_of_ble_eq_true rfl) (And.intro (Nat.le_of_ble_eq_true rfl) (And.intro (Nat.le_of_ble_eq_true rfl) (And.intro (Nat.le_of_ble_eq_true rfl) (wpE_m (fun _ _ HH => @wpE_w _ _ [none, none, none, none] _ _ _ _ _ (show LeL [none, none, none, none] [some (.ref v0), none, none, some (.int v3)] from trivial) HH) (H1 c1 c2))))))))))) (fun c3 => (H2 c1 c3)))) (fun c4 => (H3 c4)))))))
/-- SnapshotRings.reasonToRefuse from 67 -/
theorem r_X_reasonToRefuse_67 {s0 : Int32} {h : sn_H} {Q : Option Value → sn_H → Prop}
    (H1 : s0 = 0 → Q (some (.int (nI 0))) h)
    (H2 : ¬ s0 = 0 → Q (some (.int (nI 3))) h) :
    wpE 27 67 [none, none, none, none] [.int s0] h (0, 0) Q :=
  vc_s (ct := fun _ => false) 1000 false (And.intro (fun c1 => (H1 c1)) (fun c2 => (H2 c2)))
/-- SnapshotRings.finish from 0 -/
theorem r_X_finish_0 {v0 : Nat} {v1 : Nat} {v2 : Int32} {h : sn_H} {Q : Option Value → sn_H → Prop}
    (k1 : hK h v1 = (0, 1, 14))
    (k2 : hK h v0 = (0, 0, 5))
    (H1 : wpE 27 0 [some (.ref v0), some (.ref v1), some (.int v2), some (.int (hG h v1 0))] [] h (0, 0) (fun r hh => wpE 26 10 [none, some (.ref v1), some (.int v2), none] (r.toList ++ []) hh (0, 0) Q)) :
    wpE 26 0 [some (.ref v0), some (.ref v1), some (.int v2), none] [] h (0, 0) Q :=
  vc_s (ct := fun _ => false) 1000 false (And.intro k1 (And.intro k2 (And.intro (Nat.le_of_ble_eq_true rfl) (And.intro (Nat.le_of_ble_eq_true rfl) (And.intro (Nat.le_of_ble_eq_true rfl) (And.intro (Nat.le_of_ble_eq_true rfl) (wpE_m (fun _ _ HH => @wpE_w _ _ [none, some (.ref v1), some (.int v2), none] _ _ _ _ _ (show LeL [none, some (.ref v1), some (.int v2), none] [some (.ref v0), some (.ref v1), some (.int v2), none] from (And.intro rfl (And.intro rfl trivial))) HH) H1)))))))
/-- SnapshotRings.finish from 10 -/
theorem r_X_finish_10 {v1 : Nat} {v2 : Int32} {s0 : Int32} {q1 : Nat} {n1 : Nat} {h : sn_H} {Q : Option Value → sn_H → Prop}
    (k1 : hK h v1 = (0, 1, 14))
    (k2 : hR h v1 4 = some q1)
    (k3 : hK h q1 = (1, 0, n1))
    (H1 : s0 = 0 → wpE 43 0 [some (.ref v1), some (.int v2), none, none] [] h (0, 0) (fun r hh => wpE 26 29 [none, none, none, none] (r.toList ++ []) hh (0, 0) Q))
    (B2 : ¬ s0 = 0 → vp_in s0 n1)
    (H3 : ¬ s0 = 0 → Q (some (.int (-s0))) (setG (setG h v1 3 ((hG h v1 3) &&& ((nI 1 <<< (v2 &&& 31)) ^^^ -(nI 1)))) q1 s0.toNatClampNeg ((hG (setG h v1 3 ((hG h v1 3) &&& ((nI 1 <<< (v2 &&& 31)) ^^^ -(nI 1)))) q1 s0.toNatClampNeg) + nI 1))) :
    wpE 26 10 [none, some (.ref v1), some (.int v2), none] [.int s0] h (0, 0) Q :=
  vc_s (ct := fun _ => false) 1000 false (And.intro (Nat.le_of_ble_eq_true rfl) (And.intro (fun c1 => (And.intro k1 (And.intro (Nat.le_of_ble_eq_true rfl) (And.intro (Nat.le_of_ble_eq_true rfl) (And.intro (Nat.le_of_ble_eq_true rfl) (And.intro (Nat.le_of_ble_eq_true rfl) (wpE_m (fun _ _ HH => @wpE_w _ _ [none, none, none, none] _ _ _ _ _ (show LeL [none, none, none, none] [none, some (.ref v1), some (.int v2), some (.int s0)] from trivial) HH) (H1 c1)))))))) (fun c2 => (And.intro k1 (And.intro (Nat.le_of_ble_eq_true rfl) (And.intro (Nat.le_of_ble_eq_true rfl) (And.intro (Nat.le_of_ble_eq_true rfl) (And.intro (Nat.le_of_ble_eq_true rfl) (r_S_refuse_0 (v0 := v1) (v1 := v2) (v2 := s0) (q1 := q1) (n1 := n1) (h := h) k1 k2 k3 ((B2 c2)) ((vc_s (ct := fun _ => false) 1000 false (H3 c2))))))))))))
/-- SnapshotRings.finish from 29 -/
theorem r_X_finish_29 {s0 : Int32} {h : sn_H} {Q : Option Value → sn_H → Prop}
    (H1 : Q (some (.int s0)) h) :
    wpE 26 29 [none, none, none, none] [.int s0] h (0, 0) Q :=
  vc_s (ct := fun _ => false) 1000 false H1
/-- SnapshotRings.commit from 0 -/
theorem r_X_commit_0 {v0 : Nat} {v1 : Int32} {q1 : Nat} {q2 : Nat} {h : sn_H} {Q : Option Value → sn_H → Prop}
    (k1 : hK h v0 = (0, 0, 5))
    (k2 : hR h v0 0 = some q1)
    (k3 : hK h q1 = (0, 1, 14))
    (k4 : hR h v0 2 = some q2)
    (k5 : hK h q2 = (0, 2, 3))
    (H1 : v1 < 0 → Q (some (.int (-(nI 20001)))) h)
    (H2 : ¬ v1 < 0 → nI 8 ≤ v1 → Q (some (.int (-(nI 20001)))) h)
    (H3 : ¬ v1 < 0 → ¬ nI 8 ≤ v1 → ¬ (((hG h q1 3) >>> (v1 &&& 31)) &&& nI 1) = nI 1 → Q (some (.int (-(nI 20001)))) h)
    (H4 : ¬ v1 < 0 → ¬ nI 8 ≤ v1 → (((hG h q1 3) >>> (v1 &&& 31)) &&& nI 1) = nI 1 → wpE 6 0 [some (.ref q2), some (.ref q1)] [] h (0, 0) (fun r hh => wpE 25 23 [some (.ref v0), some (.int v1), none] (r.toList ++ []) hh (0, 0) Q)) :
    wpE 25 0 [some (.ref v0), some (.int v1), none] [] h (0, 0) Q :=
  vc_s (ct := fun _ => false) 1000 false (And.intro k1 (And.intro (Nat.le_of_ble_eq_true rfl) (And.intro (Nat.le_of_ble_eq_true rfl) (And.intro (Nat.le_of_ble_eq_true rfl) (And.intro (Nat.le_of_ble_eq_true rfl) (r_X_errorOfSlot_0 (v0 := v0) (v1 := v1) (q1 := q1) (h := h) k1 k2 k3 (fun c1 => (vc_s (ct := fun _ => false) 1000 false (And.intro (Nat.le_of_ble_eq_true rfl) (And.intro (fun c2 => absurd c2 (by decide)) (fun c2 => (H1 c1)))))) (fun c3 c4 => (vc_s (ct := fun _ => false) 1000 false (And.intro (Nat.le_of_ble_eq_true rfl) (And.intro (fun c5 => absurd c5 (by decide)) (fun c5 => (H2 c3 c4)))))) (fun c6 c7 c8 => (vc_s (ct := fun _ => false) 1000 false (And.intro (Nat.le_of_ble_eq_true rfl) (And.intro (fun c9 => absurd c9 (by decide)) (fun c9 => (H3 c6 c7 c8)))))) (fun c10 c11 c12 => (vc_s (ct := fun _ => false) 1000 false (And.intro (Nat.le_of_ble_eq_true rfl) (And.intro (fun c13 => (And.intro k1 (Exists.intro q2 (And.intro k4 (And.intro k1 (Exists.intro q1 (And.intro k2 (And.intro k5 (And.intro (Nat.le_of_ble_eq_true rfl) (And.intro (Nat.le_of_ble_eq_true rfl) (And.intro (Nat.le_of_ble_eq_true rfl) (And.intro (Nat.le_of_ble_eq_true rfl) (wpE_m (fun _ _ HH => @wpE_w _ _ [some (.ref v0), some (.int v1), none] _ _ _ _ _ (show LeL [some (.ref v0), some (.int v1), none] [some (.ref v0), some (.int v1), some (.int (nI 0))] from (And.intro rfl (And.intro rfl trivial))) HH) (H4 c10 c11 c12)))))))))))))) (fun c13 => absurd c13 (by decide))))))))))))
/-- SnapshotRings.commit from 23 -/
theorem r_X_commit_23 {v0 : Nat} {v1 : Int32} {q1 : Nat} {h : sn_H} {Q : Option Value → sn_H → Prop}
    (k1 : hK h v0 = (0, 0, 5))
    (k2 : hR h v0 0 = some q1)
    (H1 : wpE 26 0 [some (.ref v0), some (.ref q1), some (.int v1), none] [] h (0, 0) (fun r hh => wpE 25 32 [none, none, none] (r.toList ++ []) hh (0, 0) Q)) :
    wpE 25 23 [some (.ref v0), some (.int v1), none] [] h (0, 0) Q :=
  vc_s (ct := fun _ => false) 1000 false (And.intro k1 (Exists.intro q1 (And.intro k2 (And.intro k1 (And.intro (Nat.le_of_ble_eq_true rfl) (And.intro (Nat.le_of_ble_eq_true rfl) (And.intro (Nat.le_of_ble_eq_true rfl) (And.intro (Nat.le_of_ble_eq_true rfl) (wpE_m (fun _ _ HH => @wpE_w _ _ [none, none, none] _ _ _ _ _ (show LeL [none, none, none] [some (.ref v0), some (.int v1), none] from trivial) HH) H1)))))))))
/-- SnapshotRings.commit from 32 -/
theorem r_X_commit_32 {s0 : Int32} {h : sn_H} {Q : Option Value → sn_H → Prop}
    (H1 : Q (some (.int s0)) h) :
    wpE 25 32 [none, none, none] [.int s0] h (0, 0) Q :=
  vc_s (ct := fun _ => false) 1000 false H1
/-- SnapshotRings.abort from 0 -/
theorem r_X_abort_0 {v0 : Nat} {v1 : Int32} {q1 : Nat} {q2 : Nat} {h : sn_H} {Q : Option Value → sn_H → Prop}
    (k1 : hK h v0 = (0, 0, 5))
    (k2 : hR h v0 0 = some q1)
    (k3 : hK h q1 = (0, 1, 14))
    (k4 : hR h v0 2 = some q2)
    (k5 : hK h q2 = (0, 2, 3))
    (H1 : v1 < 0 → Q (some (.int (-(nI 20001)))) h)
    (H2 : ¬ v1 < 0 → nI 8 ≤ v1 → Q (some (.int (-(nI 20001)))) h)
    (H3 : ¬ v1 < 0 → ¬ nI 8 ≤ v1 → ¬ (((hG h q1 3) >>> (v1 &&& 31)) &&& nI 1) = nI 1 → Q (some (.int (-(nI 20001)))) h)
    (H4 : ¬ v1 < 0 → ¬ nI 8 ≤ v1 → (((hG h q1 3) >>> (v1 &&& 31)) &&& nI 1) = nI 1 → wpE 6 0 [some (.ref q2), some (.ref q1)] [] h (0, 0) (fun r hh => wpE 44 23 [some (.ref v0), some (.int v1), none] (r.toList ++ []) hh (0, 0) Q)) :
    wpE 44 0 [some (.ref v0), some (.int v1), none] [] h (0, 0) Q :=
  vc_s (ct := fun _ => false) 1000 false (And.intro k1 (And.intro (Nat.le_of_ble_eq_true rfl) (And.intro (Nat.le_of_ble_eq_true rfl) (And.intro (Nat.le_of_ble_eq_true rfl) (And.intro (Nat.le_of_ble_eq_true rfl) (r_X_errorOfSlot_0 (v0 := v0) (v1 := v1) (q1 := q1) (h := h) k1 k2 k3 (fun c1 => (vc_s (ct := fun _ => false) 1000 false (And.intro (Nat.le_of_ble_eq_true rfl) (And.intro (fun c2 => absurd c2 (by decide)) (fun c2 => (H1 c1)))))) (fun c3 c4 => (vc_s (ct := fun _ => false) 1000 false (And.intro (Nat.le_of_ble_eq_true rfl) (And.intro (fun c5 => absurd c5 (by decide)) (fun c5 => (H2 c3 c4)))))) (fun c6 c7 c8 => (vc_s (ct := fun _ => false) 1000 false (And.intro (Nat.le_of_ble_eq_true rfl) (And.intro (fun c9 => absurd c9 (by decide)) (fun c9 => (H3 c6 c7 c8)))))) (fun c10 c11 c12 => (vc_s (ct := fun _ => false) 1000 false (And.intro (Nat.le_of_ble_eq_true rfl) (And.intro (fun c13 => (And.intro k1 (Exists.intro q2 (And.intro k4 (And.intro k1 (Exists.intro q1 (And.intro k2 (And.intro k5 (And.intro (Nat.le_of_ble_eq_true rfl) (And.intro (Nat.le_of_ble_eq_true rfl) (And.intro (Nat.le_of_ble_eq_true rfl) (And.intro (Nat.le_of_ble_eq_true rfl) (wpE_m (fun _ _ HH => @wpE_w _ _ [some (.ref v0), some (.int v1), none] _ _ _ _ _ (show LeL [some (.ref v0), some (.int v1), none] [some (.ref v0), some (.int v1), some (.int (nI 0))] from (And.intro rfl (And.intro rfl trivial))) HH) (H4 c10 c11 c12)))))))))))))) (fun c13 => absurd c13 (by decide))))))))))))
/-- SnapshotRings.abort from 23 -/
theorem r_X_abort_23 {v0 : Nat} {v1 : Int32} {q1 : Nat} {h : sn_H} {Q : Option Value → sn_H → Prop}
    (k1 : hK h v0 = (0, 0, 5))
    (k2 : hR h v0 0 = some q1)
    (k3 : hK h q1 = (0, 1, 14))
    (H1 : wpE 45 0 [some (.ref q1), some (.int v1)] [] h (0, 0) (fun r hh => wpE 44 31 [none, none, none] (r.toList ++ []) hh (0, 0) Q)) :
    wpE 44 23 [some (.ref v0), some (.int v1), none] [] h (0, 0) Q :=
  vc_s (ct := fun _ => false) 1000 false (And.intro k1 (Exists.intro q1 (And.intro k2 (And.intro k3 (And.intro (Nat.le_of_ble_eq_true rfl) (And.intro (Nat.le_of_ble_eq_true rfl) (And.intro (Nat.le_of_ble_eq_true rfl) (And.intro (Nat.le_of_ble_eq_true rfl) (wpE_m (fun _ _ HH => @wpE_w _ _ [none, none, none] _ _ _ _ _ (show LeL [none, none, none] [some (.ref v0), some (.int v1), none] from trivial) HH) H1)))))))))
/-- SnapshotRings.abort from 31 -/
theorem r_X_abort_31 {s0 : Int32} {h : sn_H} {Q : Option Value → sn_H → Prop}
    (H1 : Q (some (.int s0)) h) :
    wpE 44 31 [none, none, none] [.int s0] h (0, 0) Q :=
  vc_s (ct := fun _ => false) 1000 false H1
/-- SnapshotRings.ifAllCommitted from 0 -/
theorem r_X_ifAllCommitted_0 {v0 : Nat} {q1 : Nat} {q2 : Nat} {h : sn_H} {Q : Option Value → sn_H → Prop}
    (k1 : hK h v0 = (0, 0, 5))
    (k2 : hR h v0 1 = some q1)
    (k3 : hR h v0 0 = some q2)
    (k4 : hK h q1 = (0, 1, 14))
    (H1 : wpE 7 0 [some (.ref q1), some (.ref q2)] [] h (0, 0) (fun r hh => wpE 46 11 [some (.ref v0), none, none] (r.toList ++ []) hh (0, 0) Q)) :
    wpE 46 0 [some (.ref v0), none, none] [] h (0, 0) Q :=
  vc_s (ct := fun pc => Nat.beq pc 13 || Nat.beq pc 50) 1000 false (And.intro k1 (Exists.intro q1 (And.intro k2 (And.intro k1 (Exists.intro q2 (And.intro k3 (And.intro k4 (And.intro (Nat.le_of_ble_eq_true rfl) (And.intro (Nat.le_of_ble_eq_true rfl) (And.intro (Nat.le_of_ble_eq_true rfl) (And.intro (Nat.le_of_ble_eq_true rfl) H1)))))))))))
/-- SnapshotRings.ifAllCommitted from 11 -/
theorem r_X_ifAllCommitted_11 {v0 : Nat} {h : sn_H} {Q : Option Value → sn_H → Prop}
    (H1 : wpE 46 13 [some (.ref v0), some (.int (nI 0)), none] [] h (0, 0) Q) :
    wpE 46 11 [some (.ref v0), none, none] [] h (0, 0) Q :=
  vc_s (ct := fun pc => Nat.beq pc 13 || Nat.beq pc 50) 1000 false (And.intro (Nat.le_of_ble_eq_true rfl) H1)
/-- SnapshotRings.ifAllCommitted from 13 -/
theorem r_X_ifAllCommitted_13 {v0 : Nat} {v1 : Int32} {q1 : Nat} {h : sn_H} {Q : Option Value → sn_H → Prop}
    (k1 : hK h v0 = (0, 0, 5))
    (k2 : hR h v0 1 = some q1)
    (k3 : hK h q1 = (0, 1, 14))
    (H1 : nI 8 ≤ v1 → wpE 46 50 [some (.ref v0), some (.int (nI 0)), some (.int (nI 0))] [] h (0, 0) Q)
    (H2 : ¬ nI 8 ≤ v1 → ¬ (((hG h q1 3) >>> (v1 &&& 31)) &&& nI 1) = nI 1 → wpE 46 13 [some (.ref v0), some (.int (v1 + nI 1)), none] [] h (0, 0) Q)
    (H3 : ¬ nI 8 ≤ v1 → (((hG h q1 3) >>> (v1 &&& 31)) &&& nI 1) = nI 1 → wpE 26 0 [some (.ref v0), some (.ref q1), some (.int v1), none] [] h (0, 0) (fun r hh => wpE 46 39 [some (.ref v0), some (.int v1), none] (r.toList ++ []) hh (0, 0) Q)) :
    wpE 46 13 [some (.ref v0), some (.int v1), none] [] h (0, 0) Q :=
  vc_s (ct := fun pc => Nat.beq pc 13 || Nat.beq pc 50) 1000 false (And.intro (fun c1 => (And.intro (Nat.le_of_ble_eq_true rfl) (And.intro (Nat.le_of_ble_eq_true rfl) (H1 c1)))) (fun c2 => (And.intro k1 (Exists.intro q1 (And.intro k2 (And.intro k3 (And.intro (Nat.le_of_ble_eq_true rfl) (And.intro (Nat.le_of_ble_eq_true rfl) (And.intro (Nat.le_of_ble_eq_true rfl) (And.intro (Nat.le_of_ble_eq_true rfl) (r_S_isOpen_0 (v0 := q1) (v1 := v1) (h := h) k3 (fun c3 => (vc_s (ct := fun pc => Nat.beq pc 13 || Nat.beq pc 50) 1000 false (And.intro (fun c4 => (And.intro (Nat.le_of_ble_eq_true rfl) (H2 c2 c3))) (fun c4 => absurd c4 (by decide))))) (fun c5 => (vc_s (ct := fun pc => Nat.beq pc 13 || Nat.beq pc 50) 1000 false (And.intro (fun c6 => absurd c6 (by decide)) (fun c6 => (And.intro k1 (Exists.intro q1 (And.intro k2 (And.intro k1 (And.intro (Nat.le_of_ble_eq_true rfl) (And.intro (Nat.le_of_ble_eq_true rfl) (And.intro (Nat.le_of_ble_eq_true rfl) (And.intro (Nat.le_of_ble_eq_true rfl) (H3 c2 c5))))))))))))))))))))))))
/-- SnapshotRings.ifAllCommitted from 50 -/
theorem r_X_ifAllCommitted_50 {v0 : Nat} {v1 : Int32} {v2 : Int32} {q1 : Nat} {q2 : Nat} {h : sn_H} {Q : Option Value → sn_H → Prop}
    (k1 : hK h v0 = (0, 0, 5))
    (k2 : hR h v0 1 = some q1)
    (k3 : hK h q1 = (0, 1, 14))
    (k4 : hR h q1 7 = some q2)
    (H1 : nI 3 ≤ v2 → Q (some (.int v1)) h)
    (H2 : ¬ nI 3 ≤ v2 → wpE 47 0 [some (.ref q1), some (.ref q2), some (.int (nI 0)), some (.int v2), none, none] [] h (0, 0) (fun r hh => wpE 46 71 [some (.ref v0), some (.int v1), some (.int v2)] (r.toList ++ []) hh (0, 0) Q)) :
    wpE 46 50 [some (.ref v0), some (.int v1), some (.int v2)] [] h (0, 0) Q :=
  vc_s (ct := fun pc => Nat.beq pc 13 || Nat.beq pc 50) 1000 false (And.intro (fun c1 => (H1 c1)) (fun c2 => (And.intro k1 (Exists.intro q1 (And.intro k2 (And.intro k1 (Exists.intro q1 (And.intro k2 (And.intro k3 (Exists.intro q2 (And.intro k4 (And.intro k3 (And.intro (Nat.le_of_ble_eq_true rfl) (And.intro (Nat.le_of_ble_eq_true rfl) (And.intro (Nat.le_of_ble_eq_true rfl) (And.intro (Nat.le_of_ble_eq_true rfl) (H2 c2)))))))))))))))))
/-- SnapshotRings.ifAllCommitted from 39 -/
theorem r_X_ifAllCommitted_39 {v0 : Nat} {v1 : Int32} {s0 : Int32} {h : sn_H} {Q : Option Value → sn_H → Prop}
    (H1 : wpE 46 13 [some (.ref v0), some (.int (v1 + nI 1)), none] [] h (0, 0) Q) :
    wpE 46 39 [some (.ref v0), some (.int v1), none] [.int s0] h (0, 0) Q :=
  vc_s (ct := fun pc => Nat.beq pc 13 || Nat.beq pc 50) 1000 false (And.intro rfl (And.intro (Nat.le_of_ble_eq_true rfl) H1))
/-- SnapshotRings.ifAllCommitted from 71 -/
theorem r_X_ifAllCommitted_71 {v0 : Nat} {v1 : Int32} {v2 : Int32} {s0 : Int32} {h : sn_H} {Q : Option Value → sn_H → Prop}
    (H1 : s0 = 0 → wpE 46 50 [some (.ref v0), some (.int v1), some (.int (v2 + nI 1))] [] h (0, 0) Q)
    (H2 : ¬ s0 = 0 → wpE 46 50 [some (.ref v0), some (.int (v1 + nI 1)), some (.int (v2 + nI 1))] [] h (0, 0) Q) :
    wpE 46 71 [some (.ref v0), some (.int v1), some (.int v2)] [.int s0] h (0, 0) Q :=
  vc_s (ct := fun pc => Nat.beq pc 13 || Nat.beq pc 50) 1000 false (And.intro (fun c1 => (And.intro (Nat.le_of_ble_eq_true rfl) (H1 c1))) (fun c2 => (And.intro (Nat.le_of_ble_eq_true rfl) (And.intro (Nat.le_of_ble_eq_true rfl) (H2 c2)))))
/-- SnapshotRings.version from 0 -/
theorem r_X_version_0 {v0 : Nat} {v1 : Int32} {q1 : Nat} {q2 : Nat} {n1 : Nat} {h : sn_H} {Q : Option Value → sn_H → Prop}
    (k1 : hK h v0 = (0, 0, 5))
    (k2 : hR h v0 0 = some q1)
    (k3 : hK h q1 = (0, 1, 14))
    (k4 : hR h q1 8 = some q2)
    (k5 : hK h q2 = (1, 0, n1))
    (H1 : v1 < 0 → Q (some (.int (-(nI 20001)))) h)
    (H2 : ¬ v1 < 0 → nI 12 ≤ v1 → Q (some (.int (-(nI 20001)))) h)
    (B3 : ¬ v1 < 0 → ¬ nI 12 ≤ v1 → vp_in v1 n1)
    (H4 : ¬ v1 < 0 → ¬ nI 12 ≤ v1 → Q (some (.int (hG h q2 v1.toNatClampNeg))) h) :
    wpE 60 0 [some (.ref v0), some (.int v1)] [] h (0, 0) Q :=
  vc_s (ct := fun _ => false) 1000 false (And.intro (Nat.le_of_ble_eq_true rfl) (And.intro (Nat.le_of_ble_eq_true rfl) (And.intro (Nat.le_of_ble_eq_true rfl) (And.intro (Nat.le_of_ble_eq_true rfl) (r_X_isKey_0 (v0 := v1) (h := h) (fun c1 => (vc_s (ct := fun _ => false) 1000 false (And.intro (fun c2 => (H1 c1)) (fun c2 => absurd c2 (by decide))))) (fun c3 c4 => (vc_s (ct := fun _ => false) 1000 false (And.intro (fun c5 => (H2 c3 c4)) (fun c5 => absurd c5 (by decide))))) (fun c6 c7 => (vc_s (ct := fun _ => false) 1000 false (And.intro (fun c8 => absurd c8 (by decide)) (fun c8 => (And.intro k1 (Exists.intro q1 (And.intro k2 (And.intro k3 (Exists.intro q2 (And.intro k4 (Exists.intro 0 (Exists.intro n1 (And.intro k5 (And.intro (B3 c6 c7) (H4 c6 c7))))))))))))))))))))
/-- SnapshotRings.value from 0 -/
theorem r_X_value_0 {v0 : Nat} {v1 : Int32} {q1 : Nat} {q2 : Nat} {n1 : Nat} {h : sn_H} {Q : Option Value → sn_H → Prop}
    (k1 : hK h v0 = (0, 0, 5))
    (k2 : hR h v0 0 = some q1)
    (k3 : hK h q1 = (0, 1, 14))
    (k4 : hR h q1 7 = some q2)
    (k5 : hK h q2 = (1, 0, n1))
    (H1 : v1 < 0 → Q (some (.int (-(nI 20001)))) h)
    (H2 : ¬ v1 < 0 → nI 12 ≤ v1 → Q (some (.int (-(nI 20001)))) h)
    (B3 : ¬ v1 < 0 → ¬ nI 12 ≤ v1 → vp_in v1 n1)
    (H4 : ¬ v1 < 0 → ¬ nI 12 ≤ v1 → Q (some (.int (hG h q2 v1.toNatClampNeg))) h) :
    wpE 61 0 [some (.ref v0), some (.int v1)] [] h (0, 0) Q :=
  vc_s (ct := fun _ => false) 1000 false (And.intro (Nat.le_of_ble_eq_true rfl) (And.intro (Nat.le_of_ble_eq_true rfl) (And.intro (Nat.le_of_ble_eq_true rfl) (And.intro (Nat.le_of_ble_eq_true rfl) (r_X_isKey_0 (v0 := v1) (h := h) (fun c1 => (vc_s (ct := fun _ => false) 1000 false (And.intro (fun c2 => (H1 c1)) (fun c2 => absurd c2 (by decide))))) (fun c3 c4 => (vc_s (ct := fun _ => false) 1000 false (And.intro (fun c5 => (H2 c3 c4)) (fun c5 => absurd c5 (by decide))))) (fun c6 c7 => (vc_s (ct := fun _ => false) 1000 false (And.intro (fun c8 => absurd c8 (by decide)) (fun c8 => (And.intro k1 (Exists.intro q1 (And.intro k2 (And.intro k3 (Exists.intro q2 (And.intro k4 (Exists.intro 0 (Exists.intro n1 (And.intro k5 (And.intro (B3 c6 c7) (H4 c6 c7))))))))))))))))))))
/-- SnapshotRings.of from 0 -/
theorem r_X_of_0 {v0 : Nat} {v1 : Int32} {v2 : Int32} {q1 : Nat} {q2 : Nat} {n1 : Nat} {q3 : Nat} {n2 : Nat} {q4 : Nat} {n3 : Nat} {h : sn_H} {Q : Option Value → sn_H → Prop}
    (k1 : hK h v0 = (0, 0, 5))
    (k2 : hR h v0 0 = some q1)
    (k3 : hK h q1 = (0, 1, 14))
    (k4 : hR h q1 9 = some q2)
    (k5 : hK h q2 = (1, 0, n1))
    (k6 : hR h q1 10 = some q3)
    (k7 : hK h q3 = (1, 0, n2))
    (k8 : hR h q1 11 = some q4)
    (k9 : hK h q4 = (1, 0, n3))
    (H1 : v1 < 0 → Q (some (.int (-(nI 20001)))) h)
    (H2 : ¬ v1 < 0 → nI 8 ≤ v1 → Q (some (.int (-(nI 20001)))) h)
    (H3 : ¬ v1 < 0 → ¬ nI 8 ≤ v1 → ¬ (((hG h q1 3) >>> (v1 &&& 31)) &&& nI 1) = nI 1 → Q (some (.int (-(nI 20001)))) h)
    (B4 : ¬ v1 < 0 → ¬ nI 8 ≤ v1 → (((hG h q1 3) >>> (v1 &&& 31)) &&& nI 1) = nI 1 → ¬ v2 = nI 3 → v2.toInt = 0 → vp_in v1 n1)
    (H5 : ¬ v1 < 0 → ¬ nI 8 ≤ v1 → (((hG h q1 3) >>> (v1 &&& 31)) &&& nI 1) = nI 1 → ¬ v2 = nI 3 → v2.toInt = 0 → Q (some (.int (hG h q2 v1.toNatClampNeg))) h)
    (B6 : ¬ v1 < 0 → ¬ nI 8 ≤ v1 → (((hG h q1 3) >>> (v1 &&& 31)) &&& nI 1) = nI 1 → ¬ v2 = nI 3 → v2.toInt = 1 → vp_in v1 n2)
    (H7 : ¬ v1 < 0 → ¬ nI 8 ≤ v1 → (((hG h q1 3) >>> (v1 &&& 31)) &&& nI 1) = nI 1 → ¬ v2 = nI 3 → v2.toInt = 1 → Q (some (.int (hG h q3 v1.toNatClampNeg))) h)
    (B8 : ¬ v1 < 0 → ¬ nI 8 ≤ v1 → (((hG h q1 3) >>> (v1 &&& 31)) &&& nI 1) = nI 1 → ¬ v2 = nI 3 → v2.toInt = 2 → vp_in v1 n3)
    (H9 : ¬ v1 < 0 → ¬ nI 8 ≤ v1 → (((hG h q1 3) >>> (v1 &&& 31)) &&& nI 1) = nI 1 → ¬ v2 = nI 3 → v2.toInt = 2 → Q (some (.int (hG h q4 v1.toNatClampNeg))) h)
    (H10 : ¬ v1 < 0 → ¬ nI 8 ≤ v1 → (((hG h q1 3) >>> (v1 &&& 31)) &&& nI 1) = nI 1 → ¬ v2 = nI 3 → (v2.toInt < 0 ∨ 2 < v2.toInt) → Q (some (.int (-(nI 20002)))) h)
    (H11 : ¬ v1 < 0 → ¬ nI 8 ≤ v1 → (((hG h q1 3) >>> (v1 &&& 31)) &&& nI 1) = nI 1 → v2 = nI 3 → wpE 27 0 [some (.ref v0), some (.ref q1), some (.int v1), some (.int (hG h q1 0))] [] h (0, 0) (fun r hh => wpE 62 33 [none, none, none, none] (r.toList ++ []) hh (0, 0) Q)) :
    wpE 62 0 [some (.ref v0), some (.int v1), some (.int v2), none] [] h (0, 0) Q :=
  vc_s (ct := fun _ => false) 1000 false (And.intro k1 (And.intro (Nat.le_of_ble_eq_true rfl) (And.intro (Nat.le_of_ble_eq_true rfl) (And.intro (Nat.le_of_ble_eq_true rfl) (And.intro (Nat.le_of_ble_eq_true rfl) (r_X_errorOfSlot_0 (v0 := v0) (v1 := v1) (q1 := q1) (h := h) k1 k2 k3 (fun c1 => (vc_s (ct := fun _ => false) 1000 false (And.intro (Nat.le_of_ble_eq_true rfl) (And.intro (fun c2 => absurd c2 (by decide)) (fun c2 => (H1 c1)))))) (fun c3 c4 => (vc_s (ct := fun _ => false) 1000 false (And.intro (Nat.le_of_ble_eq_true rfl) (And.intro (fun c5 => absurd c5 (by decide)) (fun c5 => (H2 c3 c4)))))) (fun c6 c7 c8 => (vc_s (ct := fun _ => false) 1000 false (And.intro (Nat.le_of_ble_eq_true rfl) (And.intro (fun c9 => absurd c9 (by decide)) (fun c9 => (H3 c6 c7 c8)))))) (fun c10 c11 c12 => (vc_s (ct := fun _ => false) 1000 false (And.intro (Nat.le_of_ble_eq_true rfl) (And.intro (fun c13 => (And.intro (fun c14 => (And.intro k1 (Exists.intro q1 (And.intro k2 (And.intro k3 (And.intro (Nat.le_of_ble_eq_true rfl) (And.intro (Nat.le_of_ble_eq_true rfl) (And.intro (Nat.le_of_ble_eq_true rfl) (And.intro (Nat.le_of_ble_eq_true rfl) (r_S_partOfRow_0 (v0 := q1) (v1 := v1) (v2 := v2) (q1 := q2) (n1 := n1) (q2 := q3) (n2 := n2) (q3 := q4) (n3 := n3) (h := h) k3 k4 k5 k6 k7 k8 k9 (fun c15 => (B4 c10 c11 c12 c14 c15)) (fun c16 => (vc_s (ct := fun _ => false) 1000 false (H5 c10 c11 c12 c14 c16))) (fun c17 => (B6 c10 c11 c12 c14 c17)) (fun c18 => (vc_s (ct := fun _ => false) 1000 false (H7 c10 c11 c12 c14 c18))) (fun c19 => (B8 c10 c11 c12 c14 c19)) (fun c20 => (vc_s (ct := fun _ => false) 1000 false (H9 c10 c11 c12 c14 c20))) (fun c21 => (vc_s (ct := fun _ => false) 1000 false (H10 c10 c11 c12 c14 c21))))))))))))) (fun c22 => (And.intro k1 (Exists.intro q1 (And.intro k2 (And.intro k1 (Exists.intro q1 (And.intro k2 (And.intro k3 (And.intro k1 (And.intro (Nat.le_of_ble_eq_true rfl) (And.intro (Nat.le_of_ble_eq_true rfl) (And.intro (Nat.le_of_ble_eq_true rfl) (And.intro (Nat.le_of_ble_eq_true rfl) (wpE_m (fun _ _ HH => @wpE_w _ _ [none, none, none, none] _ _ _ _ _ (show LeL [none, none, none, none] [some (.ref v0), some (.int v1), some (.int v2), some (.int (nI 0))] from trivial) HH) (H11 c10 c11 c12 c22))))))))))))))))) (fun c13 => absurd c13 (by decide))))))))))))
/-- SnapshotRings.of from 33 -/
theorem r_X_of_33 {s0 : Int32} {h : sn_H} {Q : Option Value → sn_H → Prop}
    (H1 : Q (some (.int s0)) h) :
    wpE 62 33 [none, none, none, none] [.int s0] h (0, 0) Q :=
  vc_s (ct := fun _ => false) 1000 false H1
/-- SnapshotRings.refusedBy from 0 -/
theorem r_X_refusedBy_0 {v0 : Nat} {v1 : Int32} {q1 : Nat} {h : sn_H} {Q : Option Value → sn_H → Prop}
    (k1 : hK h v0 = (0, 0, 5))
    (k2 : hR h v0 0 = some q1)
    (k3 : hK h q1 = (0, 1, 14))
    (H1 : v1 < 0 → Q (some (.int (-(nI 20001)))) h)
    (H2 : ¬ v1 < 0 → nI 8 ≤ v1 → Q (some (.int (-(nI 20001)))) h)
    (H3 : ¬ v1 < 0 → ¬ nI 8 ≤ v1 → ¬ (((hG h q1 3) >>> (v1 &&& 31)) &&& nI 1) = nI 1 → Q (some (.int (-(nI 20001)))) h)
    (H4 : ¬ v1 < 0 → ¬ nI 8 ≤ v1 → (((hG h q1 3) >>> (v1 &&& 31)) &&& nI 1) = nI 1 → wpE 64 14 [some (.ref v0), some (.int v1), none, some (.int (nI 0))] [] h (0, 0) Q) :
    wpE 64 0 [some (.ref v0), some (.int v1), none, none] [] h (0, 0) Q :=
  vc_s (ct := fun pc => Nat.beq pc 14) 1000 false (And.intro k1 (And.intro (Nat.le_of_ble_eq_true rfl) (And.intro (Nat.le_of_ble_eq_true rfl) (And.intro (Nat.le_of_ble_eq_true rfl) (And.intro (Nat.le_of_ble_eq_true rfl) (r_X_errorOfSlot_0 (v0 := v0) (v1 := v1) (q1 := q1) (h := h) k1 k2 k3 (fun c1 => (vc_s (ct := fun pc => Nat.beq pc 14) 1000 false (And.intro (Nat.le_of_ble_eq_true rfl) (And.intro (fun c2 => absurd c2 (by decide)) (fun c2 => (H1 c1)))))) (fun c3 c4 => (vc_s (ct := fun pc => Nat.beq pc 14) 1000 false (And.intro (Nat.le_of_ble_eq_true rfl) (And.intro (fun c5 => absurd c5 (by decide)) (fun c5 => (H2 c3 c4)))))) (fun c6 c7 c8 => (vc_s (ct := fun pc => Nat.beq pc 14) 1000 false (And.intro (Nat.le_of_ble_eq_true rfl) (And.intro (fun c9 => absurd c9 (by decide)) (fun c9 => (H3 c6 c7 c8)))))) (fun c10 c11 c12 => (vc_s (ct := fun pc => Nat.beq pc 14) 1000 false (And.intro (Nat.le_of_ble_eq_true rfl) (And.intro (fun c13 => (And.intro (Nat.le_of_ble_eq_true rfl) (@wpE_w _ _ [some (.ref v0), some (.int v1), none, some (.int (nI 0))] _ _ _ _ _ (show LeL [some (.ref v0), some (.int v1), none, some (.int (nI 0))] [some (.ref v0), some (.int v1), some (.int (nI 0)), some (.int (nI 0))] from (And.intro rfl (And.intro rfl (And.intro rfl trivial)))) (H4 c10 c11 c12)))) (fun c13 => absurd c13 (by decide))))))))))))
/-- SnapshotRings.refusedBy from 14 -/
theorem r_X_refusedBy_14 {v0 : Nat} {v1 : Int32} {v3 : Int32} {q1 : Nat} {h : sn_H} {Q : Option Value → sn_H → Prop}
    (k1 : hK h v0 = (0, 0, 5))
    (k2 : hR h v0 0 = some q1)
    (H1 : nI 2 < v3 → Q (some (.int (-(nI 20006)))) h)
    (H2 : ¬ nI 2 < v3 → wpE 27 0 [some (.ref v0), some (.ref q1), some (.int v1), some (.int v3)] [] h (0, 0) (fun r hh => wpE 64 29 [some (.ref v0), some (.int v1), none, some (.int v3)] (r.toList ++ []) hh (0, 0) Q)) :
    wpE 64 14 [some (.ref v0), some (.int v1), none, some (.int v3)] [] h (0, 0) Q :=
  vc_s (ct := fun pc => Nat.beq pc 14) 1000 false (And.intro (fun c1 => (H1 c1)) (fun c2 => (And.intro k1 (Exists.intro q1 (And.intro k2 (And.intro k1 (And.intro (Nat.le_of_ble_eq_true rfl) (And.intro (Nat.le_of_ble_eq_true rfl) (And.intro (Nat.le_of_ble_eq_true rfl) (And.intro (Nat.le_of_ble_eq_true rfl) (H2 c2)))))))))))
/-- SnapshotRings.refusedBy from 29 -/
theorem r_X_refusedBy_29 {v0 : Nat} {v1 : Int32} {v3 : Int32} {s0 : Int32} {h : sn_H} {Q : Option Value → sn_H → Prop}
    (H1 : s0 = 0 → wpE 64 14 [some (.ref v0), some (.int v1), none, some (.int (v3 + nI 1))] [] h (0, 0) Q)
    (H2 : ¬ s0 = 0 → Q (some (.int v3)) h) :
    wpE 64 29 [some (.ref v0), some (.int v1), none, some (.int v3)] [.int s0] h (0, 0) Q :=
  vc_s (ct := fun pc => Nat.beq pc 14) 1000 false (And.intro (fun c1 => (And.intro (Nat.le_of_ble_eq_true rfl) (H1 c1))) (fun c2 => (H2 c2)))
/-- SnapshotRings.holdsFor from 0 -/
theorem r_X_holdsFor_0 {v0 : Nat} {v1 : Int32} {v2 : Int32} {q1 : Nat} {q2 : Nat} {h : sn_H} {Q : Option Value → sn_H → Prop}
    (k1 : hK h v0 = (0, 0, 5))
    (k2 : hR h v0 0 = some q1)
    (k3 : hK h q1 = (0, 1, 14))
    (k4 : hR h q1 13 = some q2)
    (H1 : v1 < 0 → Q (some (.int (-(nI 20001)))) h)
    (H2 : ¬ v1 < 0 → nI 8 ≤ v1 → Q (some (.int (-(nI 20001)))) h)
    (H3 : ¬ v1 < 0 → ¬ nI 8 ≤ v1 → ¬ (((hG h q1 3) >>> (v1 &&& 31)) &&& nI 1) = nI 1 → Q (some (.int (-(nI 20001)))) h)
    (H4 : ¬ v1 < 0 → ¬ nI 8 ≤ v1 → (((hG h q1 3) >>> (v1 &&& 31)) &&& nI 1) = nI 1 → v2 < 0 → Q (some (.int (-(nI 20001)))) h)
    (H5 : ¬ v1 < 0 → ¬ nI 8 ≤ v1 → (((hG h q1 3) >>> (v1 &&& 31)) &&& nI 1) = nI 1 → ¬ v2 < 0 → nI 3 ≤ v2 → Q (some (.int (-(nI 20001)))) h)
    (H6 : ¬ v1 < 0 → ¬ nI 8 ≤ v1 → (((hG h q1 3) >>> (v1 &&& 31)) &&& nI 1) = nI 1 → ¬ v2 < 0 → ¬ nI 3 ≤ v2 → wpE 47 0 [some (.ref q1), some (.ref q2), some (.int (v1 * nI 12)), some (.int v2), none, none] [] h (0, 0) (fun r hh => wpE 65 42 [none, none, none, none] (r.toList ++ []) hh (0, 0) Q)) :
    wpE 65 0 [some (.ref v0), some (.int v1), some (.int v2), none] [] h (0, 0) Q :=
  vc_s (ct := fun _ => false) 1000 false (And.intro k1 (And.intro (Nat.le_of_ble_eq_true rfl) (And.intro (Nat.le_of_ble_eq_true rfl) (And.intro (Nat.le_of_ble_eq_true rfl) (And.intro (Nat.le_of_ble_eq_true rfl) (r_X_errorOfSlot_0 (v0 := v0) (v1 := v1) (q1 := q1) (h := h) k1 k2 k3 (fun c1 => (vc_s (ct := fun _ => false) 1000 false (And.intro (Nat.le_of_ble_eq_true rfl) (And.intro (fun c2 => absurd c2 (by decide)) (fun c2 => (H1 c1)))))) (fun c3 c4 => (vc_s (ct := fun _ => false) 1000 false (And.intro (Nat.le_of_ble_eq_true rfl) (And.intro (fun c5 => absurd c5 (by decide)) (fun c5 => (H2 c3 c4)))))) (fun c6 c7 c8 => (vc_s (ct := fun _ => false) 1000 false (And.intro (Nat.le_of_ble_eq_true rfl) (And.intro (fun c9 => absurd c9 (by decide)) (fun c9 => (H3 c6 c7 c8)))))) (fun c10 c11 c12 => (vc_s (ct := fun _ => false) 1000 false (And.intro (Nat.le_of_ble_eq_true rfl) (And.intro (fun c13 => (And.intro (Nat.le_of_ble_eq_true rfl) (And.intro (Nat.le_of_ble_eq_true rfl) (And.intro (Nat.le_of_ble_eq_true rfl) (And.intro (Nat.le_of_ble_eq_true rfl) (r_X_isConstraint_0 (v0 := v2) (h := h) (fun c14 => (vc_s (ct := fun _ => false) 1000 false (And.intro (fun c15 => absurd c15 (by decide)) (fun c15 => (H4 c10 c11 c12 c14))))) (fun c16 c17 => (vc_s (ct := fun _ => false) 1000 false (And.intro (fun c18 => absurd c18 (by decide)) (fun c18 => (H5 c10 c11 c12 c16 c17))))) (fun c19 c20 => (vc_s (ct := fun _ => false) 1000 false (And.intro (fun c21 => (And.intro k1 (Exists.intro q1 (And.intro k2 (And.intro k1 (Exists.intro q1 (And.intro k2 (And.intro k3 (Exists.intro q2 (And.intro k4 (And.intro k3 (And.intro (Nat.le_of_ble_eq_true rfl) (And.intro (Nat.le_of_ble_eq_true rfl) (And.intro (Nat.le_of_ble_eq_true rfl) (And.intro (Nat.le_of_ble_eq_true rfl) (wpE_m (fun _ _ HH => @wpE_w _ _ [none, none, none, none] _ _ _ _ _ (show LeL [none, none, none, none] [some (.ref v0), some (.int v1), some (.int v2), some (.int (nI 0))] from trivial) HH) (H6 c10 c11 c12 c19 c20))))))))))))))))) (fun c21 => absurd c21 (by decide))))))))))) (fun c13 => absurd c13 (by decide))))))))))))
/-- SnapshotRings.holdsFor from 42 -/
theorem r_X_holdsFor_42 {s0 : Int32} {h : sn_H} {Q : Option Value → sn_H → Prop}
    (H1 : s0 = 0 → Q (some (.int (nI 0))) h)
    (H2 : ¬ s0 = 0 → Q (some (.int (nI 1))) h) :
    wpE 65 42 [none, none, none, none] [.int s0] h (0, 0) Q :=
  vc_s (ct := fun _ => false) 1000 false (And.intro (fun c1 => (H1 c1)) (fun c2 => (H2 c2)))
/-- SnapshotRings.ringOf from 0 -/
theorem r_X_ringOf_0 {v0 : Nat} {v1 : Int32} {v2 : Int32} {q1 : Nat} {q2 : Nat} {h : sn_H} {Q : Option Value → sn_H → Prop}
    (k1 : hK h v0 = (0, 0, 5))
    (k2 : hR h v0 0 = some q1)
    (k3 : hK h q1 = (0, 1, 14))
    (k4 : hR h v0 3 = some q2)
    (k5 : hK h q2 = (0, 3, 10))
    (H1 : v1 < 0 → Q (some (.int (-(nI 20001)))) h)
    (H2 : ¬ v1 < 0 → nI 8 ≤ v1 → Q (some (.int (-(nI 20001)))) h)
    (H3 : ¬ v1 < 0 → ¬ nI 8 ≤ v1 → ¬ (((hG h q1 3) >>> (v1 &&& 31)) &&& nI 1) = nI 1 → Q (some (.int (-(nI 20001)))) h)
    (H4 : ¬ v1 < 0 → ¬ nI 8 ≤ v1 → (((hG h q1 3) >>> (v1 &&& 31)) &&& nI 1) = nI 1 → nI 1 ≤ v2 → wpE 29 0 [some (.ref q2), some (.ref q1), none, none, none] [] h (0, 0) (fun r hh => wpE 66 32 [some (.ref v0), some (.int v1), some (.int v2), none] (r.toList ++ []) hh (0, 0) Q))
    (H5 : ¬ v1 < 0 → ¬ nI 8 ≤ v1 → (((hG h q1 3) >>> (v1 &&& 31)) &&& nI 1) = nI 1 → ¬ nI 1 ≤ v2 → Q (some (.int (-(nI 20002)))) h) :
    wpE 66 0 [some (.ref v0), some (.int v1), some (.int v2), none] [] h (0, 0) Q :=
  vc_s (ct := fun _ => false) 1000 false (And.intro k1 (And.intro (Nat.le_of_ble_eq_true rfl) (And.intro (Nat.le_of_ble_eq_true rfl) (And.intro (Nat.le_of_ble_eq_true rfl) (And.intro (Nat.le_of_ble_eq_true rfl) (r_X_errorOfSlot_0 (v0 := v0) (v1 := v1) (q1 := q1) (h := h) k1 k2 k3 (fun c1 => (vc_s (ct := fun _ => false) 1000 false (And.intro (Nat.le_of_ble_eq_true rfl) (And.intro (fun c2 => absurd c2 (by decide)) (fun c2 => (H1 c1)))))) (fun c3 c4 => (vc_s (ct := fun _ => false) 1000 false (And.intro (Nat.le_of_ble_eq_true rfl) (And.intro (fun c5 => absurd c5 (by decide)) (fun c5 => (H2 c3 c4)))))) (fun c6 c7 c8 => (vc_s (ct := fun _ => false) 1000 false (And.intro (Nat.le_of_ble_eq_true rfl) (And.intro (fun c9 => absurd c9 (by decide)) (fun c9 => (H3 c6 c7 c8)))))) (fun c10 c11 c12 => (vc_s (ct := fun _ => false) 1000 false (And.intro (Nat.le_of_ble_eq_true rfl) (And.intro (fun c13 => (And.intro (fun c14 => (And.intro k1 (Exists.intro q2 (And.intro k4 (And.intro k1 (Exists.intro q1 (And.intro k2 (And.intro k5 (And.intro (Nat.le_of_ble_eq_true rfl) (And.intro (Nat.le_of_ble_eq_true rfl) (And.intro (Nat.le_of_ble_eq_true rfl) (And.intro (Nat.le_of_ble_eq_true rfl) (wpE_m (fun _ _ HH => @wpE_w _ _ [some (.ref v0), some (.int v1), some (.int v2), none] _ _ _ _ _ (show LeL [some (.ref v0), some (.int v1), some (.int v2), none] [some (.ref v0), some (.int v1), some (.int v2), some (.int (nI 0))] from (And.intro rfl (And.intro rfl (And.intro rfl trivial)))) HH) (H4 c10 c11 c12 c14)))))))))))))) (fun c15 => (H5 c10 c11 c12 c15)))) (fun c13 => absurd c13 (by decide))))))))))))
/-- SnapshotRings.ringOf from 32 -/
theorem r_X_ringOf_32 {v0 : Nat} {v1 : Int32} {v2 : Int32} {q1 : Nat} {q2 : Nat} {h : sn_H} {Q : Option Value → sn_H → Prop}
    (k1 : hK h v0 = (0, 0, 5))
    (k2 : hR h v0 3 = some q1)
    (k3 : hR h v0 0 = some q2)
    (k4 : hK h q1 = (0, 3, 10))
    (H1 : wpE 35 0 [some (.ref q1), some (.ref q2), some (.int v1), none, none] [] h (0, 0) (fun r hh => wpE 66 44 [some (.ref v0), none, some (.int v2), none] (r.toList ++ []) hh (0, 0) Q)) :
    wpE 66 32 [some (.ref v0), some (.int v1), some (.int v2), none] [] h (0, 0) Q :=
  vc_s (ct := fun _ => false) 1000 false (And.intro k1 (Exists.intro q1 (And.intro k2 (And.intro k1 (Exists.intro q2 (And.intro k3 (And.intro k4 (And.intro (Nat.le_of_ble_eq_true rfl) (And.intro (Nat.le_of_ble_eq_true rfl) (And.intro (Nat.le_of_ble_eq_true rfl) (And.intro (Nat.le_of_ble_eq_true rfl) (wpE_m (fun _ _ HH => @wpE_w _ _ [some (.ref v0), none, some (.int v2), none] _ _ _ _ _ (show LeL [some (.ref v0), none, some (.int v2), none] [some (.ref v0), some (.int v1), some (.int v2), none] from (And.intro rfl (And.intro rfl trivial))) HH) H1))))))))))))
/-- SnapshotRings.ringOf from 44 -/
theorem r_X_ringOf_44 {v0 : Nat} {v2 : Int32} {q1 : Nat} {h : sn_H} {Q : Option Value → sn_H → Prop}
    (k1 : hK h v0 = (0, 0, 5))
    (k2 : hR h v0 3 = some q1)
    (k3 : hK h q1 = (0, 3, 10))
    (H1 : wpE 36 0 [some (.ref q1), none, none, none, none] [] h (0, 0) (fun r hh => wpE 66 51 [some (.ref v0), none, some (.int v2), none] (r.toList ++ []) hh (0, 0) Q)) :
    wpE 66 44 [some (.ref v0), none, some (.int v2), none] [] h (0, 0) Q :=
  vc_s (ct := fun _ => false) 1000 false (And.intro k1 (Exists.intro q1 (And.intro k2 (And.intro k3 (And.intro (Nat.le_of_ble_eq_true rfl) (And.intro (Nat.le_of_ble_eq_true rfl) (And.intro (Nat.le_of_ble_eq_true rfl) (And.intro (Nat.le_of_ble_eq_true rfl) H1))))))))
/-- SnapshotRings.ringOf from 51 -/
theorem r_X_ringOf_51 {v0 : Nat} {v2 : Int32} {q1 : Nat} {q2 : Nat} {n1 : Nat} {h : sn_H} {Q : Option Value → sn_H → Prop}
    (k1 : hK h v0 = (0, 0, 5))
    (k2 : hR h v0 3 = some q1)
    (k3 : hK h q1 = (0, 3, 10))
    (k4 : hR h q1 8 = some q2)
    (k5 : hK h q2 = (1, 0, n1))
    (H1 : (v2 - nI 1) < 0 → Q (some (.int (-(nI 20006)))) h)
    (H2 : ¬ (v2 - nI 1) < 0 → (hG h q1 9) ≤ (v2 - nI 1) → Q (some (.int (-(nI 20006)))) h)
    (B3 : ¬ (v2 - nI 1) < 0 → ¬ (hG h q1 9) ≤ (v2 - nI 1) → vp_in (v2 - nI 1) n1)
    (H4 : ¬ (v2 - nI 1) < 0 → ¬ (hG h q1 9) ≤ (v2 - nI 1) → Q (some (.int (hG h q2 (v2 - nI 1).toNatClampNeg))) h) :
    wpE 66 51 [some (.ref v0), none, some (.int v2), none] [] h (0, 0) Q :=
  vc_s (ct := fun _ => false) 1000 false (And.intro k1 (Exists.intro q1 (And.intro k2 (And.intro k3 (And.intro (Nat.le_of_ble_eq_true rfl) (And.intro (Nat.le_of_ble_eq_true rfl) (And.intro (Nat.le_of_ble_eq_true rfl) (And.intro (Nat.le_of_ble_eq_true rfl) (r_G_toldAt_0 (v0 := q1) (v1 := (v2 - nI 1)) (q1 := q2) (n1 := n1) (h := h) k3 k4 k5 (fun c1 => (vc_s (ct := fun _ => false) 1000 false (H1 c1))) (fun c2 c3 => (vc_s (ct := fun _ => false) 1000 false (H2 c2 c3))) (fun c4 c5 => (B3 c4 c5)) (fun c6 c7 => (vc_s (ct := fun _ => false) 1000 false (H4 c6 c7))))))))))))
/-- SnapshotRings.ofCommit from 0 -/
theorem r_X_ofCommit_0 {v0 : Nat} {v1 : Int32} {v2 : Int32} {q1 : Nat} {q2 : Nat} {n1 : Nat} {q3 : Nat} {n2 : Nat} {q4 : Nat} {n3 : Nat} {h : sn_H} {Q : Option Value → sn_H → Prop}
    (k1 : hK h v0 = (0, 0, 5))
    (k2 : hR h v0 0 = some q1)
    (k3 : hK h q1 = (0, 1, 14))
    (k4 : hR h q1 9 = some q2)
    (k5 : hK h q2 = (1, 0, n1))
    (k6 : hR h q1 10 = some q3)
    (k7 : hK h q3 = (1, 0, n2))
    (k8 : hR h q1 11 = some q4)
    (k9 : hK h q4 = (1, 0, n3))
    (H1 : v1 < nI 1 → Q (some (.int (-(nI 20001)))) h)
    (H2 : ¬ v1 < nI 1 → (hG h q1 1) < v1 → Q (some (.int (-(nI 20001)))) h)
    (H3 : ¬ v1 < nI 1 → ¬ (hG h q1 1) < v1 → v1 ≤ ((hG h q1 1) - nI 16) → Q (some (.int (-(nI 20001)))) h)
    (B4 : ¬ v1 < nI 1 → ¬ (hG h q1 1) < v1 → ¬ v1 ≤ ((hG h q1 1) - nI 16) → v2.toInt = 0 → vp_in (nI 8 + ((v1 - nI 1) &&& nI 15)) n1)
    (H5 : ¬ v1 < nI 1 → ¬ (hG h q1 1) < v1 → ¬ v1 ≤ ((hG h q1 1) - nI 16) → v2.toInt = 0 → Q (some (.int (hG h q2 (nI 8 + ((v1 - nI 1) &&& nI 15)).toNatClampNeg))) h)
    (B6 : ¬ v1 < nI 1 → ¬ (hG h q1 1) < v1 → ¬ v1 ≤ ((hG h q1 1) - nI 16) → v2.toInt = 1 → vp_in (nI 8 + ((v1 - nI 1) &&& nI 15)) n2)
    (H7 : ¬ v1 < nI 1 → ¬ (hG h q1 1) < v1 → ¬ v1 ≤ ((hG h q1 1) - nI 16) → v2.toInt = 1 → Q (some (.int (hG h q3 (nI 8 + ((v1 - nI 1) &&& nI 15)).toNatClampNeg))) h)
    (B8 : ¬ v1 < nI 1 → ¬ (hG h q1 1) < v1 → ¬ v1 ≤ ((hG h q1 1) - nI 16) → v2.toInt = 2 → vp_in (nI 8 + ((v1 - nI 1) &&& nI 15)) n3)
    (H9 : ¬ v1 < nI 1 → ¬ (hG h q1 1) < v1 → ¬ v1 ≤ ((hG h q1 1) - nI 16) → v2.toInt = 2 → Q (some (.int (hG h q4 (nI 8 + ((v1 - nI 1) &&& nI 15)).toNatClampNeg))) h)
    (H10 : ¬ v1 < nI 1 → ¬ (hG h q1 1) < v1 → ¬ v1 ≤ ((hG h q1 1) - nI 16) → (v2.toInt < 0 ∨ 2 < v2.toInt) → Q (some (.int (-(nI 20002)))) h) :
    wpE 68 0 [some (.ref v0), some (.int v1), some (.int v2)] [] h (0, 0) Q :=
  vc_s (ct := fun _ => false) 1000 false (And.intro k1 (Exists.intro q1 (And.intro k2 (And.intro k3 (And.intro (Nat.le_of_ble_eq_true rfl) (And.intro (Nat.le_of_ble_eq_true rfl) (And.intro (Nat.le_of_ble_eq_true rfl) (And.intro (Nat.le_of_ble_eq_true rfl) (r_S_isKept_0 (v0 := q1) (v1 := v1) (h := h) k3 (fun c1 => (vc_s (ct := fun _ => false) 1000 false (And.intro (fun c2 => absurd c2 (by decide)) (fun c2 => (H1 c1))))) (fun c3 c4 => (vc_s (ct := fun _ => false) 1000 false (And.intro (fun c5 => absurd c5 (by decide)) (fun c5 => (H2 c3 c4))))) (fun c6 c7 c8 => (vc_s (ct := fun _ => false) 1000 false (And.intro (fun c9 => absurd c9 (by decide)) (fun c9 => (H3 c6 c7 c8))))) (fun c10 c11 c12 => (vc_s (ct := fun _ => false) 1000 false (And.intro (fun c13 => (And.intro k1 (Exists.intro q1 (And.intro k2 (And.intro k1 (Exists.intro q1 (And.intro k2 (And.intro k3 (And.intro (Nat.le_of_ble_eq_true rfl) (And.intro (Nat.le_of_ble_eq_true rfl) (And.intro (Nat.le_of_ble_eq_true rfl) (And.intro (Nat.le_of_ble_eq_true rfl) (r_S_rowOfCommit_0 (v0 := q1) (v1 := v1) (h := h) ((vc_s (ct := fun _ => false) 1000 false (And.intro k3 (And.intro (Nat.le_of_ble_eq_true rfl) (And.intro (Nat.le_of_ble_eq_true rfl) (And.intro (Nat.le_of_ble_eq_true rfl) (And.intro (Nat.le_of_ble_eq_true rfl) (r_S_partOfRow_0 (v0 := q1) (v1 := (nI 8 + ((v1 - nI 1) &&& nI 15))) (v2 := v2) (q1 := q2) (n1 := n1) (q2 := q3) (n2 := n2) (q3 := q4) (n3 := n3) (h := h) k3 k4 k5 k6 k7 k8 k9 (fun c14 => (B4 c10 c11 c12 c14)) (fun c15 => (vc_s (ct := fun _ => false) 1000 false (H5 c10 c11 c12 c15))) (fun c16 => (B6 c10 c11 c12 c16)) (fun c17 => (vc_s (ct := fun _ => false) 1000 false (H7 c10 c11 c12 c17))) (fun c18 => (B8 c10 c11 c12 c18)) (fun c19 => (vc_s (ct := fun _ => false) 1000 false (H9 c10 c11 c12 c19))) (fun c20 => (vc_s (ct := fun _ => false) 1000 false (H10 c10 c11 c12 c20)))))))))))))))))))))))) (fun c13 => absurd c13 (by decide))))))))))))))
/-- SnapshotRings.dependency from 0 -/
theorem r_X_dependency_0 {v0 : Nat} {v1 : Int32} {v2 : Int32} {q1 : Nat} {h : sn_H} {Q : Option Value → sn_H → Prop}
    (k1 : hK h v0 = (0, 0, 5))
    (k2 : hR h v0 0 = some q1)
    (k3 : hK h q1 = (0, 1, 14))
    (H1 : v1 < nI 1 → Q (some (.int (-(nI 20001)))) h)
    (H2 : ¬ v1 < nI 1 → (hG h q1 1) < v1 → Q (some (.int (-(nI 20001)))) h)
    (H3 : ¬ v1 < nI 1 → ¬ (hG h q1 1) < v1 → v1 ≤ ((hG h q1 1) - nI 16) → Q (some (.int (-(nI 20001)))) h)
    (H4 : ¬ v1 < nI 1 → ¬ (hG h q1 1) < v1 → ¬ v1 ≤ ((hG h q1 1) - nI 16) → v2 < nI 1 → Q (some (.int (-(nI 20001)))) h)
    (H5 : ¬ v1 < nI 1 → ¬ (hG h q1 1) < v1 → ¬ v1 ≤ ((hG h q1 1) - nI 16) → ¬ v2 < nI 1 → (hG h q1 1) < v2 → Q (some (.int (-(nI 20001)))) h)
    (H6 : ¬ v1 < nI 1 → ¬ (hG h q1 1) < v1 → ¬ v1 ≤ ((hG h q1 1) - nI 16) → ¬ v2 < nI 1 → ¬ (hG h q1 1) < v2 → v2 ≤ ((hG h q1 1) - nI 16) → Q (some (.int (-(nI 20001)))) h)
    (H7 : ¬ v1 < nI 1 → ¬ (hG h q1 1) < v1 → ¬ v1 ≤ ((hG h q1 1) - nI 16) → ¬ v2 < nI 1 → ¬ (hG h q1 1) < v2 → ¬ v2 ≤ ((hG h q1 1) - nI 16) → ¬ v1 = v2 → wpE 34 0 [some (.ref q1), some (.int (nI 8 + ((v1 - nI 1) &&& nI 15))), some (.int v1), some (.int (nI 8 + ((v2 - nI 1) &&& nI 15))), some (.int v2), none, none, none, none, none] [] h (0, 0) (fun r hh => wpE 70 60 [none, none, none] (r.toList ++ []) hh (0, 0) Q))
    (H8 : ¬ v1 < nI 1 → ¬ (hG h q1 1) < v1 → ¬ v1 ≤ ((hG h q1 1) - nI 16) → ¬ v2 < nI 1 → ¬ (hG h q1 1) < v2 → ¬ v2 ≤ ((hG h q1 1) - nI 16) → v1 = v2 → Q (some (.int (-(nI 20002)))) h) :
    wpE 70 0 [some (.ref v0), some (.int v1), some (.int v2)] [] h (0, 0) Q :=
  vc_s (ct := fun _ => false) 1000 false (And.intro k1 (Exists.intro q1 (And.intro k2 (And.intro k3 (And.intro (Nat.le_of_ble_eq_true rfl) (And.intro (Nat.le_of_ble_eq_true rfl) (And.intro (Nat.le_of_ble_eq_true rfl) (And.intro (Nat.le_of_ble_eq_true rfl) (r_S_isKept_0 (v0 := q1) (v1 := v1) (h := h) k3 (fun c1 => (vc_s (ct := fun _ => false) 1000 false (And.intro (fun c2 => (H1 c1)) (fun c2 => absurd c2 (by decide))))) (fun c3 c4 => (vc_s (ct := fun _ => false) 1000 false (And.intro (fun c5 => (H2 c3 c4)) (fun c5 => absurd c5 (by decide))))) (fun c6 c7 c8 => (vc_s (ct := fun _ => false) 1000 false (And.intro (fun c9 => (H3 c6 c7 c8)) (fun c9 => absurd c9 (by decide))))) (fun c10 c11 c12 => (vc_s (ct := fun _ => false) 1000 false (And.intro (fun c13 => absurd c13 (by decide)) (fun c13 => (And.intro k1 (Exists.intro q1 (And.intro k2 (And.intro k3 (And.intro (Nat.le_of_ble_eq_true rfl) (And.intro (Nat.le_of_ble_eq_true rfl) (And.intro (Nat.le_of_ble_eq_true rfl) (And.intro (Nat.le_of_ble_eq_true rfl) (r_S_isKept_0 (v0 := q1) (v1 := v2) (h := h) k3 (fun c14 => (vc_s (ct := fun _ => false) 1000 false (And.intro (fun c15 => absurd c15 (by decide)) (fun c15 => (H4 c10 c11 c12 c14))))) (fun c16 c17 => (vc_s (ct := fun _ => false) 1000 false (And.intro (fun c18 => absurd c18 (by decide)) (fun c18 => (H5 c10 c11 c12 c16 c17))))) (fun c19 c20 c21 => (vc_s (ct := fun _ => false) 1000 false (And.intro (fun c22 => absurd c22 (by decide)) (fun c22 => (H6 c10 c11 c12 c19 c20 c21))))) (fun c23 c24 c25 => (vc_s (ct := fun _ => false) 1000 false (And.intro (fun c26 => (And.intro (fun c27 => (And.intro k1 (Exists.intro q1 (And.intro k2 (And.intro k1 (Exists.intro q1 (And.intro k2 (And.intro k3 (And.intro (Nat.le_of_ble_eq_true rfl) (And.intro (Nat.le_of_ble_eq_true rfl) (And.intro (Nat.le_of_ble_eq_true rfl) (And.intro (Nat.le_of_ble_eq_true rfl) (r_S_rowOfCommit_0 (v0 := q1) (v1 := v1) (h := h) ((vc_s (ct := fun _ => false) 1000 false (And.intro k1 (Exists.intro q1 (And.intro k2 (And.intro k3 (And.intro (Nat.le_of_ble_eq_true rfl) (And.intro (Nat.le_of_ble_eq_true rfl) (And.intro (Nat.le_of_ble_eq_true rfl) (And.intro (Nat.le_of_ble_eq_true rfl) (r_S_rowOfCommit_0 (v0 := q1) (v1 := v2) (h := h) ((vc_s (ct := fun _ => false) 1000 false (And.intro k3 (And.intro (Nat.le_of_ble_eq_true rfl) (And.intro (Nat.le_of_ble_eq_true rfl) (And.intro (Nat.le_of_ble_eq_true rfl) (And.intro (Nat.le_of_ble_eq_true rfl) (wpE_m (fun _ _ HH => @wpE_w _ _ [none, none, none] _ _ _ _ _ (show LeL [none, none, none] [some (.ref v0), some (.int v1), some (.int v2)] from trivial) HH) (H7 c10 c11 c12 c23 c24 c25 c27))))))))))))))))))))))))))))))))) (fun c28 => (H8 c10 c11 c12 c23 c24 c25 c28)))) (fun c26 => absurd c26 (by decide)))))))))))))))))))))))))))
/-- SnapshotRings.dependency from 60 -/
theorem r_X_dependency_60 {s0 : Int32} {h : sn_H} {Q : Option Value → sn_H → Prop}
    (H1 : Q (some (.int s0)) h) :
    wpE 70 60 [none, none, none] [.int s0] h (0, 0) Q :=
  vc_s (ct := fun _ => false) 1000 false H1
/-- SnapshotRings.orderAt from 0 -/
theorem r_X_orderAt_0 {v0 : Nat} {v1 : Int32} {q1 : Nat} {q2 : Nat} {h : sn_H} {Q : Option Value → sn_H → Prop}
    (k1 : hK h v0 = (0, 0, 5))
    (k2 : hR h v0 3 = some q1)
    (k3 : hR h v0 0 = some q2)
    (k4 : hK h q1 = (0, 3, 10))
    (H1 : 0 ≤ v1 → wpE 29 0 [some (.ref q1), some (.ref q2), none, none, none] [] h (0, 0) (fun r hh => wpE 71 19 [some (.ref v0), some (.int v1)] (r.toList ++ []) hh (0, 0) Q))
    (H2 : ¬ 0 ≤ v1 → Q (some (.int (-(nI 20002)))) h) :
    wpE 71 0 [some (.ref v0), some (.int v1)] [] h (0, 0) Q :=
  vc_s (ct := fun _ => false) 1000 false (And.intro (fun c1 => (And.intro k1 (Exists.intro q1 (And.intro k2 (And.intro k1 (Exists.intro q2 (And.intro k3 (And.intro k4 (And.intro (Nat.le_of_ble_eq_true rfl) (And.intro (Nat.le_of_ble_eq_true rfl) (And.intro (Nat.le_of_ble_eq_true rfl) (And.intro (Nat.le_of_ble_eq_true rfl) (H1 c1))))))))))))) (fun c2 => (H2 c2)))
/-- SnapshotRings.orderAt from 19 -/
theorem r_X_orderAt_19 {v0 : Nat} {v1 : Int32} {q1 : Nat} {h : sn_H} {Q : Option Value → sn_H → Prop}
    (k1 : hK h v0 = (0, 0, 5))
    (k2 : hR h v0 3 = some q1)
    (k3 : hK h q1 = (0, 3, 10))
    (H1 : wpE 72 0 [some (.ref q1), none, none, none] [] h (0, 0) (fun r hh => wpE 71 26 [some (.ref v0), some (.int v1)] (r.toList ++ []) hh (0, 0) Q)) :
    wpE 71 19 [some (.ref v0), some (.int v1)] [] h (0, 0) Q :=
  vc_s (ct := fun _ => false) 1000 false (And.intro k1 (Exists.intro q1 (And.intro k2 (And.intro k3 (And.intro (Nat.le_of_ble_eq_true rfl) (And.intro (Nat.le_of_ble_eq_true rfl) (And.intro (Nat.le_of_ble_eq_true rfl) (And.intro (Nat.le_of_ble_eq_true rfl) H1))))))))
/-- SnapshotRings.orderAt from 26 -/
theorem r_X_orderAt_26 {v0 : Nat} {v1 : Int32} {q1 : Nat} {q2 : Nat} {n1 : Nat} {h : sn_H} {Q : Option Value → sn_H → Prop}
    (k1 : hK h v0 = (0, 0, 5))
    (k2 : hR h v0 3 = some q1)
    (k3 : hK h q1 = (0, 3, 10))
    (k4 : hR h q1 8 = some q2)
    (k5 : hK h q2 = (1, 0, n1))
    (H1 : v1 < 0 → Q (some (.int (-(nI 20006)))) h)
    (H2 : ¬ v1 < 0 → (hG h q1 9) ≤ v1 → Q (some (.int (-(nI 20006)))) h)
    (B3 : ¬ v1 < 0 → ¬ (hG h q1 9) ≤ v1 → vp_in v1 n1)
    (H4 : ¬ v1 < 0 → ¬ (hG h q1 9) ≤ v1 → Q (some (.int (hG h q2 v1.toNatClampNeg))) h) :
    wpE 71 26 [some (.ref v0), some (.int v1)] [] h (0, 0) Q :=
  vc_s (ct := fun _ => false) 1000 false (And.intro k1 (Exists.intro q1 (And.intro k2 (And.intro k3 (And.intro (Nat.le_of_ble_eq_true rfl) (And.intro (Nat.le_of_ble_eq_true rfl) (And.intro (Nat.le_of_ble_eq_true rfl) (And.intro (Nat.le_of_ble_eq_true rfl) (r_G_toldAt_0 (v0 := q1) (v1 := v1) (q1 := q2) (n1 := n1) (h := h) k3 k4 k5 (fun c1 => (vc_s (ct := fun _ => false) 1000 false (H1 c1))) (fun c2 c3 => (vc_s (ct := fun _ => false) 1000 false (H2 c2 c3))) (fun c4 c5 => (B3 c4 c5)) (fun c6 c7 => (vc_s (ct := fun _ => false) 1000 false (H4 c6 c7))))))))))))
/-- SnapshotRings.holds from 0 -/
theorem r_X_holds_0 {v0 : Nat} {v1 : Int32} {q1 : Nat} {q2 : Nat} {h : sn_H} {Q : Option Value → sn_H → Prop}
    (k1 : hK h v0 = (0, 0, 5))
    (k2 : hR h v0 0 = some q1)
    (k3 : hK h q1 = (0, 1, 14))
    (k4 : hR h q1 7 = some q2)
    (H1 : v1 < 0 → Q (some (.int (-(nI 20001)))) h)
    (H2 : ¬ v1 < 0 → nI 3 ≤ v1 → Q (some (.int (-(nI 20001)))) h)
    (H3 : ¬ v1 < 0 → ¬ nI 3 ≤ v1 → wpE 47 0 [some (.ref q1), some (.ref q2), some (.int (nI 0)), some (.int v1), none, none] [] h (0, 0) (fun r hh => wpE 74 27 [none, none] (r.toList ++ []) hh (0, 0) Q)) :
    wpE 74 0 [some (.ref v0), some (.int v1)] [] h (0, 0) Q :=
  vc_s (ct := fun _ => false) 1000 false (And.intro (Nat.le_of_ble_eq_true rfl) (And.intro (Nat.le_of_ble_eq_true rfl) (And.intro (Nat.le_of_ble_eq_true rfl) (And.intro (Nat.le_of_ble_eq_true rfl) (r_X_isConstraint_0 (v0 := v1) (h := h) (fun c1 => (vc_s (ct := fun _ => false) 1000 false (And.intro (fun c2 => absurd c2 (by decide)) (fun c2 => (H1 c1))))) (fun c3 c4 => (vc_s (ct := fun _ => false) 1000 false (And.intro (fun c5 => absurd c5 (by decide)) (fun c5 => (H2 c3 c4))))) (fun c6 c7 => (vc_s (ct := fun _ => false) 1000 false (And.intro (fun c8 => (And.intro k1 (Exists.intro q1 (And.intro k2 (And.intro k1 (Exists.intro q1 (And.intro k2 (And.intro k3 (Exists.intro q2 (And.intro k4 (And.intro k3 (And.intro (Nat.le_of_ble_eq_true rfl) (And.intro (Nat.le_of_ble_eq_true rfl) (And.intro (Nat.le_of_ble_eq_true rfl) (And.intro (Nat.le_of_ble_eq_true rfl) (wpE_m (fun _ _ HH => @wpE_w _ _ [none, none] _ _ _ _ _ (show LeL [none, none] [some (.ref v0), some (.int v1)] from trivial) HH) (H3 c6 c7))))))))))))))))) (fun c8 => absurd c8 (by decide))))))))))
/-- SnapshotRings.holds from 27 -/
theorem r_X_holds_27 {s0 : Int32} {h : sn_H} {Q : Option Value → sn_H → Prop}
    (H1 : s0 = 0 → Q (some (.int (nI 0))) h)
    (H2 : ¬ s0 = 0 → Q (some (.int (nI 1))) h) :
    wpE 74 27 [none, none] [.int s0] h (0, 0) Q :=
  vc_s (ct := fun _ => false) 1000 false (And.intro (fun c1 => (H1 c1)) (fun c2 => (H2 c2)))
/-- SnapshotRings.count from 0 -/
theorem r_X_count_0 {v0 : Nat} {v1 : Int32} {q1 : Nat} {q2 : Nat} {n1 : Nat} {h : sn_H} {Q : Option Value → sn_H → Prop}
    (k1 : hK h v0 = (0, 0, 5))
    (k2 : hR h v0 0 = some q1)
    (k3 : hK h q1 = (0, 1, 14))
    (k4 : hR h q1 4 = some q2)
    (k5 : hK h q2 = (1, 0, n1))
    (H1 : v1.toInt = 0 → Q (some (.int (hG h q1 1))) h)
    (H2 : v1.toInt = 1 → wpE 24 0 [some (.int (hG h q1 3))] [] h (0, 0) (fun r hh => wpE 75 66 [none, none] (r.toList ++ []) hh (0, 0) Q))
    (H3 : v1.toInt = 2 → Q (some (.int (hG h q1 0))) h)
    (H4 : v1.toInt = 3 → Q (some (.int (if nI 16 < (hG h q1 1) then nI 16 else (hG h q1 1)))) h)
    (B5 : v1.toInt = 4 → vp_in (nI 1) n1)
    (H6 : v1.toInt = 4 → Q (some (.int (hG h q2 (nI 1).toNatClampNeg))) h)
    (B7 : v1.toInt = 5 → vp_in (nI 2) n1)
    (H8 : v1.toInt = 5 → Q (some (.int (hG h q2 (nI 2).toNatClampNeg))) h)
    (B9 : v1.toInt = 6 → vp_in (nI 3) n1)
    (H10 : v1.toInt = 6 → Q (some (.int (hG h q2 (nI 3).toNatClampNeg))) h)
    (H11 : v1.toInt = 7 → Q (some (.int (hG h q1 2))) h)
    (H12 : (v1.toInt < 0 ∨ 7 < v1.toInt) → Q (some (.int (-(nI 20002)))) h) :
    wpE 75 0 [some (.ref v0), some (.int v1)] [] h (0, 0) Q :=
  vc_s (ct := fun _ => false) 1000 false (And.intro (And.intro (fun c1 => (And.intro k1 (Exists.intro q1 (And.intro k2 (And.intro k3 (H1 c1)))))) (And.intro (fun c2 => (And.intro k1 (Exists.intro q1 (And.intro k2 (And.intro k3 (And.intro (Nat.le_of_ble_eq_true rfl) (And.intro (Nat.le_of_ble_eq_true rfl) (And.intro (Nat.le_of_ble_eq_true rfl) (And.intro (Nat.le_of_ble_eq_true rfl) (wpE_m (fun _ _ HH => @wpE_w _ _ [none, none] _ _ _ _ _ (show LeL [none, none] [some (.ref v0), some (.int v1)] from trivial) HH) (H2 c2))))))))))) (And.intro (fun c3 => (And.intro k1 (Exists.intro q1 (And.intro k2 (And.intro k3 (H3 c3)))))) (And.intro (fun c4 => (And.intro k1 (Exists.intro q1 (And.intro k2 (And.intro k3 (And.intro (Nat.le_of_ble_eq_true rfl) (And.intro (Nat.le_of_ble_eq_true rfl) (And.intro (Nat.le_of_ble_eq_true rfl) (And.intro (Nat.le_of_ble_eq_true rfl) (r_S_keptCommits_0 (v0 := q1) (h := h) k3 ((vc_s (ct := fun _ => false) 1000 false (H4 c4))))))))))))) (And.intro (fun c5 => (And.intro k1 (Exists.intro q1 (And.intro k2 (And.intro k3 (Exists.intro q2 (And.intro k4 (Exists.intro 0 (Exists.intro n1 (And.intro k5 (And.intro (B5 c5) (H6 c5)))))))))))) (And.intro (fun c6 => (And.intro k1 (Exists.intro q1 (And.intro k2 (And.intro k3 (Exists.intro q2 (And.intro k4 (Exists.intro 0 (Exists.intro n1 (And.intro k5 (And.intro (B7 c6) (H8 c6)))))))))))) (And.intro (fun c7 => (And.intro k1 (Exists.intro q1 (And.intro k2 (And.intro k3 (Exists.intro q2 (And.intro k4 (Exists.intro 0 (Exists.intro n1 (And.intro k5 (And.intro (B9 c7) (H10 c7)))))))))))) (And.intro (fun c8 => (And.intro k1 (Exists.intro q1 (And.intro k2 (And.intro k3 (H11 c8)))))) True.intro)))))))) (fun c9 => (H12 c9)))
/-- SnapshotRings.count from 66 -/
theorem r_X_count_66 {s0 : Int32} {h : sn_H} {Q : Option Value → sn_H → Prop}
    (H1 : Q (some (.int s0)) h) :
    wpE 75 66 [none, none] [.int s0] h (0, 0) Q :=
  vc_s (ct := fun _ => false) 1000 false H1
/-- SnapshotRings.inRings from 0 -/
theorem r_X_inRings_0 {v0 : Nat} {q1 : Nat} {q2 : Nat} {h : sn_H} {Q : Option Value → sn_H → Prop}
    (k1 : hK h v0 = (0, 0, 5))
    (k2 : hR h v0 3 = some q1)
    (k3 : hR h v0 0 = some q2)
    (k4 : hK h q1 = (0, 3, 10))
    (H1 : wpE 29 0 [some (.ref q1), some (.ref q2), none, none, none] [] h (0, 0) (fun r hh => wpE 76 11 [some (.ref v0)] (r.toList ++ []) hh (0, 0) Q)) :
    wpE 76 0 [some (.ref v0)] [] h (0, 0) Q :=
  vc_s (ct := fun _ => false) 1000 false (And.intro k1 (Exists.intro q1 (And.intro k2 (And.intro k1 (Exists.intro q2 (And.intro k3 (And.intro k4 (And.intro (Nat.le_of_ble_eq_true rfl) (And.intro (Nat.le_of_ble_eq_true rfl) (And.intro (Nat.le_of_ble_eq_true rfl) (And.intro (Nat.le_of_ble_eq_true rfl) H1)))))))))))
/-- SnapshotRings.inRings from 11 -/
theorem r_X_inRings_11 {v0 : Nat} {q1 : Nat} {h : sn_H} {Q : Option Value → sn_H → Prop}
    (k1 : hK h v0 = (0, 0, 5))
    (k2 : hR h v0 3 = some q1)
    (k3 : hK h q1 = (0, 3, 10))
    (H1 : wpE 77 0 [some (.ref q1), none, none] [] h (0, 0) (fun r hh => wpE 76 18 [none] (r.toList ++ []) hh (0, 0) Q)) :
    wpE 76 11 [some (.ref v0)] [] h (0, 0) Q :=
  vc_s (ct := fun _ => false) 1000 false (And.intro k1 (Exists.intro q1 (And.intro k2 (And.intro k3 (And.intro (Nat.le_of_ble_eq_true rfl) (And.intro (Nat.le_of_ble_eq_true rfl) (And.intro (Nat.le_of_ble_eq_true rfl) (And.intro (Nat.le_of_ble_eq_true rfl) (wpE_m (fun _ _ HH => @wpE_w _ _ [none] _ _ _ _ _ (show LeL [none] [some (.ref v0)] from trivial) HH) H1)))))))))
/-- SnapshotRings.inRings from 18 -/
theorem r_X_inRings_18 {s0 : Int32} {h : sn_H} {Q : Option Value → sn_H → Prop}
    (H1 : Q (some (.int s0)) h) :
    wpE 76 18 [none] [.int s0] h (0, 0) Q :=
  vc_s (ct := fun _ => false) 1000 false H1
/-- SnapshotRings.skews from 0 -/
theorem r_X_skews_0 {v0 : Nat} {q1 : Nat} {q2 : Nat} {h : sn_H} {Q : Option Value → sn_H → Prop}
    (k1 : hK h v0 = (0, 0, 5))
    (k2 : hR h v0 3 = some q1)
    (k3 : hR h v0 0 = some q2)
    (k4 : hK h q1 = (0, 3, 10))
    (H1 : wpE 29 0 [some (.ref q1), some (.ref q2), none, none, none] [] h (0, 0) (fun r hh => wpE 78 11 [some (.ref v0)] (r.toList ++ []) hh (0, 0) Q)) :
    wpE 78 0 [some (.ref v0)] [] h (0, 0) Q :=
  vc_s (ct := fun _ => false) 1000 false (And.intro k1 (Exists.intro q1 (And.intro k2 (And.intro k1 (Exists.intro q2 (And.intro k3 (And.intro k4 (And.intro (Nat.le_of_ble_eq_true rfl) (And.intro (Nat.le_of_ble_eq_true rfl) (And.intro (Nat.le_of_ble_eq_true rfl) (And.intro (Nat.le_of_ble_eq_true rfl) H1)))))))))))
/-- SnapshotRings.skews from 11 -/
theorem r_X_skews_11 {v0 : Nat} {q1 : Nat} {h : sn_H} {Q : Option Value → sn_H → Prop}
    (k1 : hK h v0 = (0, 0, 5))
    (k2 : hR h v0 3 = some q1)
    (k3 : hK h q1 = (0, 3, 10))
    (H1 : wpE 79 0 [some (.ref q1), none, none, none] [] h (0, 0) (fun r hh => wpE 78 18 [none] (r.toList ++ []) hh (0, 0) Q)) :
    wpE 78 11 [some (.ref v0)] [] h (0, 0) Q :=
  vc_s (ct := fun _ => false) 1000 false (And.intro k1 (Exists.intro q1 (And.intro k2 (And.intro k3 (And.intro (Nat.le_of_ble_eq_true rfl) (And.intro (Nat.le_of_ble_eq_true rfl) (And.intro (Nat.le_of_ble_eq_true rfl) (And.intro (Nat.le_of_ble_eq_true rfl) (wpE_m (fun _ _ HH => @wpE_w _ _ [none] _ _ _ _ _ (show LeL [none] [some (.ref v0)] from trivial) HH) H1)))))))))
/-- SnapshotRings.skews from 18 -/
theorem r_X_skews_18 {s0 : Int32} {h : sn_H} {Q : Option Value → sn_H → Prop}
    (H1 : Q (some (.int s0)) h) :
    wpE 78 18 [none] [.int s0] h (0, 0) Q :=
  vc_s (ct := fun _ => false) 1000 false H1
