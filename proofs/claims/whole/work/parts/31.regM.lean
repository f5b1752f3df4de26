/-! ===== regions of the methods, printed by wip/gen/mkregions.py ===== -/
/-- SnapshotRingsModel.within from 0 -/
theorem r_M_within_0 {v0 : Int32} {v1 : Int32} {v2 : Int32} {h : sn_H} {Q : Option Value → sn_H → Prop}
    (H1 : v0 < v1 → Q (some (.int (nI 0))) h)
    (H2 : ¬ v0 < v1 → v2 < v0 → Q (some (.int (nI 0))) h)
    (H3 : ¬ v0 < v1 → ¬ v2 < v0 → Q (some (.int (nI 1))) h) :
    wpE 97 0 [some (.int v0), some (.int v1), some (.int v2)] [] h (0, 0) Q :=
  vc_s (ct := fun _ => false) 1000 false (And.intro (fun c1 => (And.intro rfl (H1 c1))) (fun c2 => (And.intro (fun c3 => (And.intro rfl (H2 c2 c3))) (fun c4 => (And.intro rfl (H3 c2 c4))))))
/-- SnapshotRingsModel.isSlot from 0 -/
theorem r_M_isSlot_0 {v0 : Int32} {h : sn_H} {Q : Option Value → sn_H → Prop}
    (H1 : v0 < (nI 0) → Q (some (.int (nI 0))) h)
    (H2 : ¬ v0 < (nI 0) → (nI 7) < v0 → Q (some (.int (nI 0))) h)
    (H3 : ¬ v0 < (nI 0) → ¬ (nI 7) < v0 → Q (some (.int (nI 1))) h) :
    wpE 96 0 [some (.int v0)] [] h (0, 0) Q :=
  vc_s (ct := fun _ => false) 1000 false (And.intro (Nat.le_of_ble_eq_true rfl) (And.intro (Nat.le_of_ble_eq_true rfl) (And.intro (Nat.le_of_ble_eq_true rfl) (And.intro (Nat.le_of_ble_eq_true rfl) (r_M_within_0 (v0 := v0) (v1 := (nI 0)) (v2 := (nI 7)) (h := h) (fun c1 => (vc_s (ct := fun _ => false) 1000 false (And.intro rfl (H1 c1)))) (fun c2 c3 => (vc_s (ct := fun _ => false) 1000 false (And.intro rfl (H2 c2 c3)))) (fun c4 c5 => (vc_s (ct := fun _ => false) 1000 false (And.intro rfl (H3 c4 c5)))))))))
/-- SnapshotRingsModel.slotPart from 0 -/
theorem r_M_slotPart_0 {v0 : Nat} {v1 : Int32} {v2 : Int32} {q1 : Nat} {n1 : Nat} {h : sn_H} {Q : Option Value → sn_H → Prop}
    (k1 : hK h v0 = (0, 5, 16))
    (k2 : hR h v0 0 = some q1)
    (k3 : hK h q1 = (1, 0, n1))
    (B1 : vp_in ((nI 36 + (nI 40 * v1)) + v2) n1)
    (H2 : Q (some (.int (hG h q1 ((nI 36 + (nI 40 * v1)) + v2).toNatClampNeg))) h) :
    wpE 99 0 [some (.ref v0), some (.int v1), some (.int v2)] [] h (0, 0) Q :=
  vc_s (ct := fun _ => false) 1000 false (And.intro k1 (Exists.intro q1 (And.intro k2 (Exists.intro 0 (Exists.intro n1 (And.intro k3 (And.intro B1 H2)))))))
/-- SnapshotRingsModel.isOpen from 0 -/
theorem r_M_isOpen_0 {v0 : Nat} {v1 : Int32} {q1 : Nat} {n1 : Nat} {h : sn_H} {Q : Option Value → sn_H → Prop}
    (k1 : hK h v0 = (0, 5, 16))
    (k2 : hR h v0 0 = some q1)
    (k3 : hK h q1 = (1, 0, n1))
    (H1 : v1 < (nI 0) → Q (some (.int (nI 0))) h)
    (H2 : ¬ v1 < (nI 0) → (nI 7) < v1 → Q (some (.int (nI 0))) h)
    (B3 : ¬ v1 < (nI 0) → ¬ (nI 7) < v1 → vp_in ((nI 36 + (nI 40 * v1)) + (nI 39)) n1)
    (H4 : ¬ v1 < (nI 0) → ¬ (nI 7) < v1 → ¬ (hG h q1 ((nI 36 + (nI 40 * v1)) + (nI 39)).toNatClampNeg) = nI 1 → Q (some (.int (nI 0))) h)
    (H5 : ¬ v1 < (nI 0) → ¬ (nI 7) < v1 → (hG h q1 ((nI 36 + (nI 40 * v1)) + (nI 39)).toNatClampNeg) = nI 1 → Q (some (.int (nI 1))) h) :
    wpE 98 0 [some (.ref v0), some (.int v1)] [] h (0, 0) Q :=
  vc_s (ct := fun _ => false) 1000 false (And.intro (Nat.le_of_ble_eq_true rfl) (And.intro (Nat.le_of_ble_eq_true rfl) (And.intro (Nat.le_of_ble_eq_true rfl) (And.intro (Nat.le_of_ble_eq_true rfl) (r_M_isSlot_0 (v0 := v1) (h := h) (fun c1 => (vc_s (ct := fun _ => false) 1000 false (And.intro (fun c2 => (And.intro rfl (H1 c1))) (fun c2 => absurd c2 (by decide))))) (fun c3 c4 => (vc_s (ct := fun _ => false) 1000 false (And.intro (fun c5 => (And.intro rfl (H2 c3 c4))) (fun c5 => absurd c5 (by decide))))) (fun c6 c7 => (vc_s (ct := fun _ => false) 1000 false (And.intro (fun c8 => absurd c8 (by decide)) (fun c8 => (And.intro k1 (And.intro (Nat.le_of_ble_eq_true rfl) (And.intro (Nat.le_of_ble_eq_true rfl) (And.intro (Nat.le_of_ble_eq_true rfl) (And.intro (Nat.le_of_ble_eq_true rfl) (r_M_slotPart_0 (v0 := v0) (v1 := v1) (v2 := (nI 39)) (q1 := q1) (n1 := n1) (h := h) k1 k2 k3 ((B3 c6 c7)) ((vc_s (ct := fun _ => false) 1000 false (And.intro (fun c9 => (And.intro rfl (H4 c6 c7 c9))) (fun c10 => (And.intro rfl (H5 c6 c7 c10)))))))))))))))))))))
/-- SnapshotRingsModel.whyNotBegun from 0 -/
theorem r_M_whyNotBegun_0 {v0 : Nat} {v1 : Int32} {q1 : Nat} {n1 : Nat} {h : sn_H} {Q : Option Value → sn_H → Prop}
    (k1 : hK h v0 = (0, 5, 16))
    (k2 : hR h v0 0 = some q1)
    (k3 : hK h q1 = (1, 0, n1))
    (H1 : v1 < (nI 0) → Q (some (.int (-(nI 20001)))) h)
    (H2 : ¬ v1 < (nI 0) → (nI 7) < v1 → Q (some (.int (-(nI 20001)))) h)
    (B3 : ¬ v1 < (nI 0) → ¬ (nI 7) < v1 → vp_in ((nI 36 + (nI 40 * v1)) + (nI 39)) n1)
    (H4 : ¬ v1 < (nI 0) → ¬ (nI 7) < v1 → ¬ (hG h q1 ((nI 36 + (nI 40 * v1)) + (nI 39)).toNatClampNeg) = nI 1 → Q (some (.int (nI 0))) h)
    (H5 : ¬ v1 < (nI 0) → ¬ (nI 7) < v1 → (hG h q1 ((nI 36 + (nI 40 * v1)) + (nI 39)).toNatClampNeg) = nI 1 → Q (some (.int (-(nI 20003)))) h) :
    wpE 95 0 [some (.ref v0), some (.int v1)] [] h (0, 0) Q :=
  vc_s (ct := fun _ => false) 1000 false (And.intro (Nat.le_of_ble_eq_true rfl) (And.intro (Nat.le_of_ble_eq_true rfl) (And.intro (Nat.le_of_ble_eq_true rfl) (And.intro (Nat.le_of_ble_eq_true rfl) (r_M_isSlot_0 (v0 := v1) (h := h) (fun c1 => (vc_s (ct := fun _ => false) 1000 false (And.intro (fun c2 => absurd c2 (by decide)) (fun c2 => (H1 c1))))) (fun c3 c4 => (vc_s (ct := fun _ => false) 1000 false (And.intro (fun c5 => absurd c5 (by decide)) (fun c5 => (H2 c3 c4))))) (fun c6 c7 => (vc_s (ct := fun _ => false) 1000 false (And.intro (fun c8 => (And.intro k1 (And.intro (Nat.le_of_ble_eq_true rfl) (And.intro (Nat.le_of_ble_eq_true rfl) (And.intro (Nat.le_of_ble_eq_true rfl) (And.intro (Nat.le_of_ble_eq_true rfl) (r_M_isOpen_0 (v0 := v0) (v1 := v1) (q1 := q1) (n1 := n1) (h := h) k1 k2 k3 (fun c9 => absurd c9 c6) (fun c10 c11 => absurd c11 c7) (fun c12 c13 => (B3 c6 c7)) (fun c14 c15 c16 => (vc_s (ct := fun _ => false) 1000 false (And.intro (fun c17 => (H4 c6 c7 c16)) (fun c17 => absurd c17 (by decide))))) (fun c18 c19 c20 => (vc_s (ct := fun _ => false) 1000 false (And.intro (fun c21 => absurd c21 (by decide)) (fun c21 => (H5 c6 c7 c20)))))))))))) (fun c8 => absurd c8 (by decide))))))))))
/-- SnapshotRingsModel.copies from 0 -/
theorem r_M_copies_0 {v0 : Nat} {v1 : Int32} {v2 : Nat} {v3 : Int32} {h : sn_H} {Q : Option Value → sn_H → Prop}
    (H1 : wpE 101 3 [some (.ref v0), some (.int v1), some (.ref v2), some (.int v3), some (.int (nI 0))] [] h (0, 0) Q) :
    wpE 101 0 [some (.ref v0), some (.int v1), some (.ref v2), some (.int v3), none] [] h (0, 0) Q :=
  vc_s (ct := fun pc => Nat.beq pc 3) 1000 false (And.intro (Nat.le_of_ble_eq_true rfl) H1)
/-- SnapshotRingsModel.copies from 3 -/
theorem r_M_copies_3 {v0 : Nat} {v1 : Int32} {v2 : Nat} {v3 : Int32} {v4 : Int32} {n1 : Nat} {n2 : Nat} {h : sn_H} {Q : Option Value → sn_H → Prop}
    (k1 : hK h v0 = (1, 0, n1))
    (k2 : hK h v2 = (1, 0, n2))
    (H1 : nI 596 ≤ v4 → Q none h)
    (B2 : ¬ nI 596 ≤ v4 → vp_in (v1 + v4) n1)
    (B3 : ¬ nI 596 ≤ v4 → vp_in (v3 + v4) n2)
    (H4 : ¬ nI 596 ≤ v4 → wpE 101 3 [some (.ref v0), some (.int v1), some (.ref v2), some (.int v3), some (.int (v4 + nI 1))] [] (setG h v2 (v3 + v4).toNatClampNeg (hG h v0 (v1 + v4).toNatClampNeg)) (0, 0) Q) :
    wpE 101 3 [some (.ref v0), some (.int v1), some (.ref v2), some (.int v3), some (.int v4)] [] h (0, 0) Q :=
  vc_s (ct := fun pc => Nat.beq pc 3) 1000 false (And.intro (fun c1 => (And.intro rfl (H1 c1))) (fun c2 => (Exists.intro 0 (Exists.intro n1 (And.intro k1 (And.intro (B2 c2) (Exists.intro n2 (And.intro k2 (And.intro (B3 c2) (And.intro (Nat.le_of_ble_eq_true rfl) (H4 c2)))))))))))
/-- SnapshotRingsModel.record from 0 -/
theorem r_M_record_0 {v0 : Nat} {q1 : Nat} {q2 : Nat} {h : sn_H} {Q : Option Value → sn_H → Prop}
    (k1 : hK h v0 = (0, 5, 16))
    (k2 : hR h v0 0 = some q1)
    (k3 : hR h v0 2 = some q2)
    (H1 : ¬ (hG h v0 3) = nI 6 → wpE 101 0 [some (.ref q1), some (.int (nI 0)), some (.ref q2), some (.int ((hG h v0 3) * nI 596)), none] [] h (0, 0) (fun r hh => wpE 100 70 [some (.ref v0), none] (r.toList ++ []) hh (0, 0) Q))
    (H2 : (hG h v0 3) = nI 6 → wpE 100 11 [some (.ref v0), some (.int (nI 0))] [] h (0, 0) Q) :
    wpE 100 0 [some (.ref v0), none] [] h (0, 0) Q :=
  vc_s (ct := fun pc => Nat.beq pc 11) 1000 false (And.intro k1 (And.intro (fun c1 => (And.intro k1 (Exists.intro q1 (And.intro k2 (And.intro k1 (Exists.intro q2 (And.intro k3 (And.intro k1 (And.intro (Nat.le_of_ble_eq_true rfl) (And.intro (Nat.le_of_ble_eq_true rfl) (And.intro (Nat.le_of_ble_eq_true rfl) (And.intro (Nat.le_of_ble_eq_true rfl) (H1 c1))))))))))))) (fun c2 => (And.intro (Nat.le_of_ble_eq_true rfl) (H2 c2)))))
/-- SnapshotRingsModel.record from 70 -/
theorem r_M_record_70 {v0 : Nat} {h : sn_H} {Q : Option Value → sn_H → Prop}
    (k1 : hK h v0 = (0, 5, 16))
    (H1 : Q none (setG h v0 3 ((hG h v0 3) + nI 1))) :
    wpE 100 70 [some (.ref v0), none] [] h (0, 0) Q :=
  vc_s (ct := fun pc => Nat.beq pc 11) 1000 false (And.intro rfl (And.intro k1 (And.intro k1 (And.intro rfl (And.intro rfl H1)))))
/-- SnapshotRingsModel.record from 11 -/
theorem r_M_record_11 {v0 : Nat} {v1 : Int32} {q1 : Nat} {q2 : Nat} {n1 : Nat} {h : sn_H} {Q : Option Value → sn_H → Prop}
    (k1 : hK h v0 = (0, 5, 16))
    (k2 : hR h v0 0 = some q1)
    (k3 : hR h v0 2 = some q2)
    (k4 : hK h q2 = (1, 0, n1))
    (H1 : nI 2980 ≤ v1 → wpE 101 0 [some (.ref q1), some (.int (nI 0)), some (.ref q2), some (.int ((hG (setG h v0 3 ((hG h v0 3) - nI 1)) v0 3) * nI 596)), none] [] (setG h v0 3 ((hG h v0 3) - nI 1)) (0, 0) (fun r hh => wpE 100 70 [some (.ref v0), none] (r.toList ++ []) hh (0, 0) Q))
    (B2 : ¬ nI 2980 ≤ v1 → vp_in (v1 + nI 596) n1)
    (B3 : ¬ nI 2980 ≤ v1 → vp_in v1 n1)
    (H4 : ¬ nI 2980 ≤ v1 → wpE 100 11 [some (.ref v0), some (.int (v1 + nI 1))] [] (setG h q2 v1.toNatClampNeg (hG h q2 (v1 + nI 596).toNatClampNeg)) (0, 0) Q) :
    wpE 100 11 [some (.ref v0), some (.int v1)] [] h (0, 0) Q :=
  vc_s (ct := fun pc => Nat.beq pc 11) 1000 false (And.intro (fun c1 => (And.intro rfl (And.intro k1 (And.intro k1 (And.intro rfl (And.intro k1 (Exists.intro q1 (And.intro k2 (And.intro k1 (Exists.intro q2 (And.intro k3 (And.intro k1 (And.intro (Nat.le_of_ble_eq_true rfl) (And.intro (Nat.le_of_ble_eq_true rfl) (And.intro (Nat.le_of_ble_eq_true rfl) (And.intro (Nat.le_of_ble_eq_true rfl) (wpE_m (fun _ _ HH => @wpE_w _ _ [some (.ref v0), none] _ _ _ _ _ (show LeL [some (.ref v0), none] [some (.ref v0), some (.int v1)] from (And.intro rfl trivial)) HH) (H1 c1)))))))))))))))))) (fun c2 => (And.intro k1 (Exists.intro q2 (And.intro k3 (And.intro k1 (Exists.intro q2 (And.intro k3 (Exists.intro 0 (Exists.intro n1 (And.intro k4 (And.intro (B2 c2) (Exists.intro n1 (And.intro k4 (And.intro (B3 c2) (And.intro (Nat.le_of_ble_eq_true rfl) (H4 c2)))))))))))))))))
/-- SnapshotRingsModel.setSlot from 0 -/
theorem r_M_setSlot_0 {v0 : Nat} {v1 : Int32} {v2 : Int32} {v3 : Int32} {q1 : Nat} {n1 : Nat} {h : sn_H} {Q : Option Value → sn_H → Prop}
    (k1 : hK h v0 = (0, 5, 16))
    (k2 : hR h v0 0 = some q1)
    (k3 : hK h q1 = (1, 0, n1))
    (B1 : vp_in ((nI 36 + (nI 40 * v1)) + v2) n1)
    (H2 : Q none (setG h q1 ((nI 36 + (nI 40 * v1)) + v2).toNatClampNeg v3)) :
    wpE 104 0 [some (.ref v0), some (.int v1), some (.int v2), some (.int v3)] [] h (0, 0) Q :=
  vc_s (ct := fun _ => false) 1000 false (And.intro k1 (Exists.intro q1 (And.intro k2 (Exists.intro n1 (And.intro k3 (And.intro B1 (And.intro rfl H2)))))))
/-- SnapshotRingsModel.frees from 0 -/
theorem r_M_frees_0 {v0 : Nat} {v1 : Int32} {h : sn_H} {Q : Option Value → sn_H → Prop}
    (H1 : wpE 103 2 [some (.ref v0), some (.int v1), some (.int (nI 0))] [] h (0, 0) Q) :
    wpE 103 0 [some (.ref v0), some (.int v1), none] [] h (0, 0) Q :=
  vc_s (ct := fun pc => Nat.beq pc 2) 1000 false (And.intro (Nat.le_of_ble_eq_true rfl) H1)
/-- SnapshotRingsModel.frees from 2 -/
theorem r_M_frees_2 {v0 : Nat} {v1 : Int32} {v2 : Int32} {q1 : Nat} {n1 : Nat} {h : sn_H} {Q : Option Value → sn_H → Prop}
    (k1 : hK h v0 = (0, 5, 16))
    (k2 : hR h v0 0 = some q1)
    (k3 : hK h q1 = (1, 0, n1))
    (H1 : nI 40 ≤ v2 → Q none h)
    (B2 : ¬ nI 40 ≤ v2 → vp_in ((nI 36 + (nI 40 * v1)) + v2) n1)
    (H3 : ¬ nI 40 ≤ v2 → wpE 103 2 [some (.ref v0), some (.int v1), some (.int (v2 + nI 1))] [] (setG h q1 ((nI 36 + (nI 40 * v1)) + v2).toNatClampNeg (nI 0)) (0, 0) Q) :
    wpE 103 2 [some (.ref v0), some (.int v1), some (.int v2)] [] h (0, 0) Q :=
  vc_s (ct := fun pc => Nat.beq pc 2) 1000 false (And.intro (fun c1 => (And.intro rfl (H1 c1))) (fun c2 => (And.intro k1 (And.intro (Nat.le_of_ble_eq_true rfl) (And.intro (Nat.le_of_ble_eq_true rfl) (And.intro (Nat.le_of_ble_eq_true rfl) (And.intro (Nat.le_of_ble_eq_true rfl) (r_M_setSlot_0 (v0 := v0) (v1 := v1) (v2 := v2) (v3 := (nI 0)) (q1 := q1) (n1 := n1) (h := h) k1 k2 k3 ((B2 c2)) ((vc_s (ct := fun pc => Nat.beq pc 2) 1000 false (And.intro (Nat.le_of_ble_eq_true rfl) (H3 c2))))))))))))
/-- SnapshotRingsModel.begins from 0 -/
theorem r_M_begins_0 {v0 : Nat} {v1 : Int32} {h : sn_H} {Q : Option Value → sn_H → Prop}
    (k1 : hK h v0 = (0, 5, 16))
    (H1 : wpE 103 0 [some (.ref v0), some (.int v1), none] [] h (0, 0) (fun r hh => wpE 102 5 [some (.ref v0), some (.int v1), none] (r.toList ++ []) hh (0, 0) Q)) :
    wpE 102 0 [some (.ref v0), some (.int v1), none] [] h (0, 0) Q :=
  vc_s (ct := fun pc => Nat.beq pc 27 || Nat.beq pc 71) 1000 false (And.intro k1 (And.intro (Nat.le_of_ble_eq_true rfl) (And.intro (Nat.le_of_ble_eq_true rfl) (And.intro (Nat.le_of_ble_eq_true rfl) (And.intro (Nat.le_of_ble_eq_true rfl) H1)))))
/-- SnapshotRingsModel.begins from 5 -/
theorem r_M_begins_5 {v0 : Nat} {v1 : Int32} {q1 : Nat} {n1 : Nat} {h : sn_H} {Q : Option Value → sn_H → Prop}
    (k1 : hK h v0 = (0, 5, 16))
    (k2 : hR h v0 0 = some q1)
    (k3 : hK h q1 = (1, 0, n1))
    (B1 : vp_in ((nI 36 + (nI 40 * v1)) + (nI 39)) n1)
    (B2 : vp_in (nI 0) n1)
    (B3 : vp_in ((nI 36 + (nI 40 * v1)) + (nI 0)) n1)
    (H4 : wpE 102 27 [some (.ref v0), some (.int v1), some (.int (nI 0))] [] (setG (setG h q1 ((nI 36 + (nI 40 * v1)) + (nI 39)).toNatClampNeg (nI 1)) q1 ((nI 36 + (nI 40 * v1)) + (nI 0)).toNatClampNeg (hG (setG h q1 ((nI 36 + (nI 40 * v1)) + (nI 39)).toNatClampNeg (nI 1)) q1 (nI 0).toNatClampNeg)) (0, 0) Q) :
    wpE 102 5 [some (.ref v0), some (.int v1), none] [] h (0, 0) Q :=
  vc_s (ct := fun pc => Nat.beq pc 27 || Nat.beq pc 71) 1000 false (And.intro k1 (And.intro (Nat.le_of_ble_eq_true rfl) (And.intro (Nat.le_of_ble_eq_true rfl) (And.intro (Nat.le_of_ble_eq_true rfl) (And.intro (Nat.le_of_ble_eq_true rfl) (r_M_setSlot_0 (v0 := v0) (v1 := v1) (v2 := (nI 39)) (v3 := (nI 1)) (q1 := q1) (n1 := n1) (h := h) k1 k2 k3 (B1) ((vc_s (ct := fun pc => Nat.beq pc 27 || Nat.beq pc 71) 1000 false (And.intro k1 (Exists.intro q1 (And.intro k2 (Exists.intro 0 (Exists.intro n1 (And.intro k3 (And.intro B2 (And.intro k1 (And.intro (Nat.le_of_ble_eq_true rfl) (And.intro (Nat.le_of_ble_eq_true rfl) (And.intro (Nat.le_of_ble_eq_true rfl) (And.intro (Nat.le_of_ble_eq_true rfl) (r_M_setSlot_0 (v0 := v0) (v1 := v1) (v2 := (nI 0)) (v3 := (hG (setG h q1 ((nI 36 + (nI 40 * v1)) + (nI 39)).toNatClampNeg (nI 1)) q1 (nI 0).toNatClampNeg)) (q1 := q1) (n1 := n1) (h := (setG h q1 ((nI 36 + (nI 40 * v1)) + (nI 39)).toNatClampNeg (nI 1))) k1 k2 k3 (B3) ((vc_s (ct := fun pc => Nat.beq pc 27 || Nat.beq pc 71) 1000 false (And.intro (Nat.le_of_ble_eq_true rfl) H4))))))))))))))))))))))))
/-- SnapshotRingsModel.begins from 27 -/
theorem r_M_begins_27 {v0 : Nat} {v1 : Int32} {v2 : Int32} {q1 : Nat} {n1 : Nat} {h : sn_H} {Q : Option Value → sn_H → Prop}
    (k1 : hK h v0 = (0, 5, 16))
    (k2 : hR h v0 0 = some q1)
    (k3 : hK h q1 = (1, 0, n1))
    (B1 : nI 12 ≤ v2 → vp_in (nI 0) n1)
    (H2 : nI 12 ≤ v2 → Q (some (.int (hG h q1 (nI 0).toNatClampNeg))) h)
    (B3 : ¬ nI 12 ≤ v2 → vp_in (nI 24 + v2) n1)
    (B4 : ¬ nI 12 ≤ v2 → vp_in ((nI 36 + (nI 40 * v1)) + (nI 3 + v2)) n1)
    (B5 : ¬ nI 12 ≤ v2 → vp_in (nI 12 + v2) n1)
    (B6 : ¬ nI 12 ≤ v2 → vp_in ((nI 36 + (nI 40 * v1)) + (nI 15 + v2)) n1)
    (H7 : ¬ nI 12 ≤ v2 → wpE 102 71 [some (.ref v0), some (.int v1), some (.int (v2 + nI 1))] [] (setG (setG h q1 ((nI 36 + (nI 40 * v1)) + (nI 3 + v2)).toNatClampNeg (hG h q1 (nI 24 + v2).toNatClampNeg)) q1 ((nI 36 + (nI 40 * v1)) + (nI 15 + v2)).toNatClampNeg (hG (setG h q1 ((nI 36 + (nI 40 * v1)) + (nI 3 + v2)).toNatClampNeg (hG h q1 (nI 24 + v2).toNatClampNeg)) q1 (nI 12 + v2).toNatClampNeg)) (0, 0) Q) :
    wpE 102 27 [some (.ref v0), some (.int v1), some (.int v2)] [] h (0, 0) Q :=
  vc_s (ct := fun pc => Nat.beq pc 27 || Nat.beq pc 71) 1000 false (And.intro (fun c1 => (And.intro k1 (Exists.intro q1 (And.intro k2 (Exists.intro 0 (Exists.intro n1 (And.intro k3 (And.intro (B1 c1) (H2 c1))))))))) (fun c2 => (And.intro k1 (Exists.intro q1 (And.intro k2 (Exists.intro 0 (Exists.intro n1 (And.intro k3 (And.intro (B3 c2) (And.intro k1 (And.intro (Nat.le_of_ble_eq_true rfl) (And.intro (Nat.le_of_ble_eq_true rfl) (And.intro (Nat.le_of_ble_eq_true rfl) (And.intro (Nat.le_of_ble_eq_true rfl) (r_M_setSlot_0 (v0 := v0) (v1 := v1) (v2 := (nI 3 + v2)) (v3 := (hG h q1 (nI 24 + v2).toNatClampNeg)) (q1 := q1) (n1 := n1) (h := h) k1 k2 k3 ((B4 c2)) ((vc_s (ct := fun pc => Nat.beq pc 27 || Nat.beq pc 71) 1000 false (And.intro k1 (Exists.intro q1 (And.intro k2 (Exists.intro 0 (Exists.intro n1 (And.intro k3 (And.intro (B5 c2) (And.intro k1 (And.intro (Nat.le_of_ble_eq_true rfl) (And.intro (Nat.le_of_ble_eq_true rfl) (And.intro (Nat.le_of_ble_eq_true rfl) (And.intro (Nat.le_of_ble_eq_true rfl) (r_M_setSlot_0 (v0 := v0) (v1 := v1) (v2 := (nI 15 + v2)) (v3 := (hG (setG h q1 ((nI 36 + (nI 40 * v1)) + (nI 3 + v2)).toNatClampNeg (hG h q1 (nI 24 + v2).toNatClampNeg)) q1 (nI 12 + v2).toNatClampNeg)) (q1 := q1) (n1 := n1) (h := (setG h q1 ((nI 36 + (nI 40 * v1)) + (nI 3 + v2)).toNatClampNeg (hG h q1 (nI 24 + v2).toNatClampNeg))) k1 k2 k3 ((B6 c2)) ((vc_s (ct := fun pc => Nat.beq pc 27 || Nat.beq pc 71) 1000 false (And.intro (Nat.le_of_ble_eq_true rfl) (H7 c2))))))))))))))))))))))))))))))))))
/-- SnapshotRingsModel.begins from 71 -/
theorem r_M_begins_71 {v0 : Nat} {v1 : Int32} {v2 : Int32} {h : sn_H} {Q : Option Value → sn_H → Prop}
    (H1 : wpE 102 27 [some (.ref v0), some (.int v1), some (.int v2)] [] h (0, 0) Q) :
    wpE 102 71 [some (.ref v0), some (.int v1), some (.int v2)] [] h (0, 0) Q :=
  vc_s (ct := fun pc => Nat.beq pc 27 || Nat.beq pc 71) 1000 false H1
/-- SnapshotRingsModel.begin from 0 -/
theorem r_M_begin_0 {v0 : Nat} {v1 : Int32} {h : sn_H} {Q : Option Value → sn_H → Prop}
    (k1 : hK h v0 = (0, 5, 16))
    (H1 : wpE 95 0 [some (.ref v0), some (.int v1)] [] h (0, 0) (fun r hh => wpE 94 5 [some (.ref v0), some (.int v1), none] (r.toList ++ []) hh (0, 0) Q)) :
    wpE 94 0 [some (.ref v0), some (.int v1), none] [] h (0, 0) Q :=
  vc_s (ct := fun _ => false) 1000 false (And.intro k1 (And.intro (Nat.le_of_ble_eq_true rfl) (And.intro (Nat.le_of_ble_eq_true rfl) (And.intro (Nat.le_of_ble_eq_true rfl) (And.intro (Nat.le_of_ble_eq_true rfl) H1)))))
/-- SnapshotRingsModel.begin from 5 -/
theorem r_M_begin_5 {v0 : Nat} {v1 : Int32} {s0 : Int32} {h : sn_H} {Q : Option Value → sn_H → Prop}
    (k1 : hK h v0 = (0, 5, 16))
    (H1 : 0 ≤ s0 → wpE 100 0 [some (.ref v0), none] [] h (0, 0) (fun r hh => wpE 94 16 [some (.ref v0), some (.int v1), none] (r.toList ++ []) hh (0, 0) Q))
    (H2 : ¬ 0 ≤ s0 → Q (some (.int s0)) h) :
    wpE 94 5 [some (.ref v0), some (.int v1), none] [.int s0] h (0, 0) Q :=
  vc_s (ct := fun _ => false) 1000 false (And.intro (Nat.le_of_ble_eq_true rfl) (And.intro (fun c1 => (And.intro k1 (And.intro (Nat.le_of_ble_eq_true rfl) (And.intro (Nat.le_of_ble_eq_true rfl) (And.intro (Nat.le_of_ble_eq_true rfl) (And.intro (Nat.le_of_ble_eq_true rfl) (wpE_m (fun _ _ HH => @wpE_w _ _ [some (.ref v0), some (.int v1), none] _ _ _ _ _ (show LeL [some (.ref v0), some (.int v1), none] [some (.ref v0), some (.int v1), some (.int s0)] from (And.intro rfl (And.intro rfl trivial))) HH) (H1 c1)))))))) (fun c2 => (H2 c2))))
/-- SnapshotRingsModel.begin from 16 -/
theorem r_M_begin_16 {v0 : Nat} {v1 : Int32} {h : sn_H} {Q : Option Value → sn_H → Prop}
    (k1 : hK h v0 = (0, 5, 16))
    (H1 : wpE 102 0 [some (.ref v0), some (.int v1), none] [] h (0, 0) (fun r hh => wpE 94 21 [none, none, none] (r.toList ++ []) hh (0, 0) Q)) :
    wpE 94 16 [some (.ref v0), some (.int v1), none] [] h (0, 0) Q :=
  vc_s (ct := fun _ => false) 1000 false (And.intro k1 (And.intro (Nat.le_of_ble_eq_true rfl) (And.intro (Nat.le_of_ble_eq_true rfl) (And.intro (Nat.le_of_ble_eq_true rfl) (And.intro (Nat.le_of_ble_eq_true rfl) (wpE_m (fun _ _ HH => @wpE_w _ _ [none, none, none] _ _ _ _ _ (show LeL [none, none, none] [some (.ref v0), some (.int v1), none] from trivial) HH) H1))))))
/-- SnapshotRingsModel.begin from 21 -/
theorem r_M_begin_21 {s0 : Int32} {h : sn_H} {Q : Option Value → sn_H → Prop}
    (H1 : Q (some (.int s0)) h) :
    wpE 94 21 [none, none, none] [.int s0] h (0, 0) Q :=
  vc_s (ct := fun _ => false) 1000 false H1
/-- SnapshotRingsModel.isKey from 0 -/
theorem r_M_isKey_0 {v0 : Int32} {h : sn_H} {Q : Option Value → sn_H → Prop}
    (H1 : v0 < (nI 0) → Q (some (.int (nI 0))) h)
    (H2 : ¬ v0 < (nI 0) → (nI 11) < v0 → Q (some (.int (nI 0))) h)
    (H3 : ¬ v0 < (nI 0) → ¬ (nI 11) < v0 → Q (some (.int (nI 1))) h) :
    wpE 107 0 [some (.int v0)] [] h (0, 0) Q :=
  vc_s (ct := fun _ => false) 1000 false (And.intro (Nat.le_of_ble_eq_true rfl) (And.intro (Nat.le_of_ble_eq_true rfl) (And.intro (Nat.le_of_ble_eq_true rfl) (And.intro (Nat.le_of_ble_eq_true rfl) (r_M_within_0 (v0 := v0) (v1 := (nI 0)) (v2 := (nI 11)) (h := h) (fun c1 => (vc_s (ct := fun _ => false) 1000 false (And.intro rfl (H1 c1)))) (fun c2 c3 => (vc_s (ct := fun _ => false) 1000 false (And.intro rfl (H2 c2 c3)))) (fun c4 c5 => (vc_s (ct := fun _ => false) 1000 false (And.intro rfl (H3 c4 c5)))))))))
/-- SnapshotRingsModel.whyNotRead from 0 -/
theorem r_M_whyNotRead_0 {v0 : Nat} {v1 : Int32} {v2 : Int32} {q1 : Nat} {n1 : Nat} {h : sn_H} {Q : Option Value → sn_H → Prop}
    (k1 : hK h v0 = (0, 5, 16))
    (k2 : hR h v0 0 = some q1)
    (k3 : hK h q1 = (1, 0, n1))
    (H1 : v1 < (nI 0) → Q (some (.int (-(nI 20001)))) h)
    (H2 : ¬ v1 < (nI 0) → (nI 7) < v1 → Q (some (.int (-(nI 20001)))) h)
    (B3 : ¬ v1 < (nI 0) → ¬ (nI 7) < v1 → vp_in ((nI 36 + (nI 40 * v1)) + (nI 39)) n1)
    (H4 : ¬ v1 < (nI 0) → ¬ (nI 7) < v1 → ¬ (hG h q1 ((nI 36 + (nI 40 * v1)) + (nI 39)).toNatClampNeg) = nI 1 → Q (some (.int (-(nI 20001)))) h)
    (H5 : ¬ v1 < (nI 0) → ¬ (nI 7) < v1 → (hG h q1 ((nI 36 + (nI 40 * v1)) + (nI 39)).toNatClampNeg) = nI 1 → v2 < (nI 0) → Q (some (.int (-(nI 20001)))) h)
    (H6 : ¬ v1 < (nI 0) → ¬ (nI 7) < v1 → (hG h q1 ((nI 36 + (nI 40 * v1)) + (nI 39)).toNatClampNeg) = nI 1 → ¬ v2 < (nI 0) → (nI 11) < v2 → Q (some (.int (-(nI 20001)))) h)
    (H7 : ¬ v1 < (nI 0) → ¬ (nI 7) < v1 → (hG h q1 ((nI 36 + (nI 40 * v1)) + (nI 39)).toNatClampNeg) = nI 1 → ¬ v2 < (nI 0) → ¬ (nI 11) < v2 → Q (some (.int (nI 0))) h) :
    wpE 106 0 [some (.ref v0), some (.int v1), some (.int v2)] [] h (0, 0) Q :=
  vc_s (ct := fun _ => false) 1000 false (And.intro k1 (And.intro (Nat.le_of_ble_eq_true rfl) (And.intro (Nat.le_of_ble_eq_true rfl) (And.intro (Nat.le_of_ble_eq_true rfl) (And.intro (Nat.le_of_ble_eq_true rfl) (r_M_isOpen_0 (v0 := v0) (v1 := v1) (q1 := q1) (n1 := n1) (h := h) k1 k2 k3 (fun c1 => (vc_s (ct := fun _ => false) 1000 false (And.intro (fun c2 => (H1 c1)) (fun c2 => absurd c2 (by decide))))) (fun c3 c4 => (vc_s (ct := fun _ => false) 1000 false (And.intro (fun c5 => (H2 c3 c4)) (fun c5 => absurd c5 (by decide))))) (fun c6 c7 => (B3 c6 c7)) (fun c8 c9 c10 => (vc_s (ct := fun _ => false) 1000 false (And.intro (fun c11 => (H4 c8 c9 c10)) (fun c11 => absurd c11 (by decide))))) (fun c12 c13 c14 => (vc_s (ct := fun _ => false) 1000 false (And.intro (fun c15 => absurd c15 (by decide)) (fun c15 => (And.intro (Nat.le_of_ble_eq_true rfl) (And.intro (Nat.le_of_ble_eq_true rfl) (And.intro (Nat.le_of_ble_eq_true rfl) (And.intro (Nat.le_of_ble_eq_true rfl) (r_M_isKey_0 (v0 := v2) (h := h) (fun c16 => (vc_s (ct := fun _ => false) 1000 false (And.intro (fun c17 => (H5 c12 c13 c14 c16)) (fun c17 => absurd c17 (by decide))))) (fun c18 c19 => (vc_s (ct := fun _ => false) 1000 false (And.intro (fun c20 => (H6 c12 c13 c14 c18 c19)) (fun c20 => absurd c20 (by decide))))) (fun c21 c22 => (vc_s (ct := fun _ => false) 1000 false (And.intro (fun c23 => absurd c23 (by decide)) (fun c23 => (H7 c12 c13 c14 c21 c22))))))))))))))))))))
/-- SnapshotRingsModel.reads from 0 -/
theorem r_M_reads_0 {v0 : Nat} {v1 : Int32} {v2 : Int32} {q1 : Nat} {n1 : Nat} {h : sn_H} {Q : Option Value → sn_H → Prop}
    (k1 : hK h v0 = (0, 5, 16))
    (k2 : hR h v0 0 = some q1)
    (k3 : hK h q1 = (1, 0, n1))
    (B1 : vp_in ((nI 36 + (nI 40 * v1)) + (nI 2)) n1)
    (B2 : ¬ (((hG h q1 ((nI 36 + (nI 40 * v1)) + (nI 2)).toNatClampNeg) >>> (v2 &&& 31)) &&& nI 1) = nI 1 → vp_in ((nI 36 + (nI 40 * v1)) + (nI 1)) n1)
    (B3 : ¬ (((hG h q1 ((nI 36 + (nI 40 * v1)) + (nI 2)).toNatClampNeg) >>> (v2 &&& 31)) &&& nI 1) = nI 1 → vp_in ((nI 36 + (nI 40 * v1)) + (nI 15 + v2)) n1)
    (H4 : ¬ (((hG h q1 ((nI 36 + (nI 40 * v1)) + (nI 2)).toNatClampNeg) >>> (v2 &&& 31)) &&& nI 1) = nI 1 → Q (some (.int (hG (setG h q1 ((nI 36 + (nI 40 * v1)) + (nI 1)).toNatClampNeg ((hG h q1 ((nI 36 + (nI 40 * v1)) + (nI 1)).toNatClampNeg) ||| (nI 1 <<< (v2 &&& 31)))) q1 ((nI 36 + (nI 40 * v1)) + (nI 15 + v2)).toNatClampNeg))) (setG h q1 ((nI 36 + (nI 40 * v1)) + (nI 1)).toNatClampNeg ((hG h q1 ((nI 36 + (nI 40 * v1)) + (nI 1)).toNatClampNeg) ||| (nI 1 <<< (v2 &&& 31)))))
    (B5 : (((hG h q1 ((nI 36 + (nI 40 * v1)) + (nI 2)).toNatClampNeg) >>> (v2 &&& 31)) &&& nI 1) = nI 1 → vp_in ((nI 36 + (nI 40 * v1)) + (nI 27 + v2)) n1)
    (H6 : (((hG h q1 ((nI 36 + (nI 40 * v1)) + (nI 2)).toNatClampNeg) >>> (v2 &&& 31)) &&& nI 1) = nI 1 → Q (some (.int (hG h q1 ((nI 36 + (nI 40 * v1)) + (nI 27 + v2)).toNatClampNeg))) h) :
    wpE 108 0 [some (.ref v0), some (.int v1), some (.int v2)] [] h (0, 0) Q :=
  vc_s (ct := fun _ => false) 1000 false (And.intro k1 (And.intro (Nat.le_of_ble_eq_true rfl) (And.intro (Nat.le_of_ble_eq_true rfl) (And.intro (Nat.le_of_ble_eq_true rfl) (And.intro (Nat.le_of_ble_eq_true rfl) (r_M_slotPart_0 (v0 := v0) (v1 := v1) (v2 := (nI 2)) (q1 := q1) (n1 := n1) (h := h) k1 k2 k3 (B1) ((vc_s (ct := fun _ => false) 1000 false (And.intro (fun c1 => (And.intro k1 (And.intro (Nat.le_of_ble_eq_true rfl) (And.intro (Nat.le_of_ble_eq_true rfl) (And.intro (Nat.le_of_ble_eq_true rfl) (And.intro (Nat.le_of_ble_eq_true rfl) (r_M_slotPart_0 (v0 := v0) (v1 := v1) (v2 := (nI 1)) (q1 := q1) (n1 := n1) (h := h) k1 k2 k3 ((B2 c1)) ((vc_s (ct := fun _ => false) 1000 false (And.intro k1 (And.intro (Nat.le_of_ble_eq_true rfl) (And.intro (Nat.le_of_ble_eq_true rfl) (And.intro (Nat.le_of_ble_eq_true rfl) (And.intro (Nat.le_of_ble_eq_true rfl) (r_M_setSlot_0 (v0 := v0) (v1 := v1) (v2 := (nI 1)) (v3 := ((hG h q1 ((nI 36 + (nI 40 * v1)) + (nI 1)).toNatClampNeg) ||| (nI 1 <<< (v2 &&& 31)))) (q1 := q1) (n1 := n1) (h := h) k1 k2 k3 ((B2 c1)) ((vc_s (ct := fun _ => false) 1000 false (And.intro k1 (And.intro (Nat.le_of_ble_eq_true rfl) (And.intro (Nat.le_of_ble_eq_true rfl) (And.intro (Nat.le_of_ble_eq_true rfl) (And.intro (Nat.le_of_ble_eq_true rfl) (r_M_slotPart_0 (v0 := v0) (v1 := v1) (v2 := (nI 15 + v2)) (q1 := q1) (n1 := n1) (h := (setG h q1 ((nI 36 + (nI 40 * v1)) + (nI 1)).toNatClampNeg ((hG h q1 ((nI 36 + (nI 40 * v1)) + (nI 1)).toNatClampNeg) ||| (nI 1 <<< (v2 &&& 31))))) k1 k2 k3 ((B3 c1)) ((vc_s (ct := fun _ => false) 1000 false (H4 c1)))))))))))))))))))))))))) (fun c2 => (And.intro k1 (And.intro (Nat.le_of_ble_eq_true rfl) (And.intro (Nat.le_of_ble_eq_true rfl) (And.intro (Nat.le_of_ble_eq_true rfl) (And.intro (Nat.le_of_ble_eq_true rfl) (r_M_slotPart_0 (v0 := v0) (v1 := v1) (v2 := (nI 27 + v2)) (q1 := q1) (n1 := n1) (h := h) k1 k2 k3 ((B5 c2)) ((vc_s (ct := fun _ => false) 1000 false (H6 c2)))))))))))))))))))
/-- SnapshotRingsModel.read from 0 -/
theorem r_M_read_0 {v0 : Nat} {v1 : Int32} {v2 : Int32} {h : sn_H} {Q : Option Value → sn_H → Prop}
    (k1 : hK h v0 = (0, 5, 16))
    (H1 : wpE 106 0 [some (.ref v0), some (.int v1), some (.int v2)] [] h (0, 0) (fun r hh => wpE 105 6 [some (.ref v0), some (.int v1), some (.int v2), none] (r.toList ++ []) hh (0, 0) Q)) :
    wpE 105 0 [some (.ref v0), some (.int v1), some (.int v2), none] [] h (0, 0) Q :=
  vc_s (ct := fun _ => false) 1000 false (And.intro k1 (And.intro (Nat.le_of_ble_eq_true rfl) (And.intro (Nat.le_of_ble_eq_true rfl) (And.intro (Nat.le_of_ble_eq_true rfl) (And.intro (Nat.le_of_ble_eq_true rfl) H1)))))
/-- SnapshotRingsModel.read from 6 -/
theorem r_M_read_6 {v0 : Nat} {v1 : Int32} {v2 : Int32} {s0 : Int32} {h : sn_H} {Q : Option Value → sn_H → Prop}
    (k1 : hK h v0 = (0, 5, 16))
    (H1 : 0 ≤ s0 → wpE 100 0 [some (.ref v0), none] [] h (0, 0) (fun r hh => wpE 105 17 [some (.ref v0), some (.int v1), some (.int v2), none] (r.toList ++ []) hh (0, 0) Q))
    (H2 : ¬ 0 ≤ s0 → Q (some (.int s0)) h) :
    wpE 105 6 [some (.ref v0), some (.int v1), some (.int v2), none] [.int s0] h (0, 0) Q :=
  vc_s (ct := fun _ => false) 1000 false (And.intro (Nat.le_of_ble_eq_true rfl) (And.intro (fun c1 => (And.intro k1 (And.intro (Nat.le_of_ble_eq_true rfl) (And.intro (Nat.le_of_ble_eq_true rfl) (And.intro (Nat.le_of_ble_eq_true rfl) (And.intro (Nat.le_of_ble_eq_true rfl) (wpE_m (fun _ _ HH => @wpE_w _ _ [some (.ref v0), some (.int v1), some (.int v2), none] _ _ _ _ _ (show LeL [some (.ref v0), some (.int v1), some (.int v2), none] [some (.ref v0), some (.int v1), some (.int v2), some (.int s0)] from (And.intro rfl (And.intro rfl (And.intro rfl trivial)))) HH) (H1 c1)))))))) (fun c2 => (H2 c2))))
/-- SnapshotRingsModel.read from 17 -/
theorem r_M_read_17 {v0 : Nat} {v1 : Int32} {v2 : Int32} {h : sn_H} {Q : Option Value → sn_H → Prop}
    (k1 : hK h v0 = (0, 5, 16))
    (H1 : wpE 108 0 [some (.ref v0), some (.int v1), some (.int v2)] [] h (0, 0) (fun r hh => wpE 105 23 [none, none, none, none] (r.toList ++ []) hh (0, 0) Q)) :
    wpE 105 17 [some (.ref v0), some (.int v1), some (.int v2), none] [] h (0, 0) Q :=
  vc_s (ct := fun _ => false) 1000 false (And.intro k1 (And.intro (Nat.le_of_ble_eq_true rfl) (And.intro (Nat.le_of_ble_eq_true rfl) (And.intro (Nat.le_of_ble_eq_true rfl) (And.intro (Nat.le_of_ble_eq_true rfl) (wpE_m (fun _ _ HH => @wpE_w _ _ [none, none, none, none] _ _ _ _ _ (show LeL [none, none, none, none] [some (.ref v0), some (.int v1), some (.int v2), none] from trivial) HH) H1))))))
/-- SnapshotRingsModel.read from 23 -/
theorem r_M_read_23 {s0 : Int32} {h : sn_H} {Q : Option Value → sn_H → Prop}
    (H1 : Q (some (.int s0)) h) :
    wpE 105 23 [none, none, none, none] [.int s0] h (0, 0) Q :=
  vc_s (ct := fun _ => false) 1000 false H1
/-- SnapshotRingsModel.whyNotWritten from 0 -/
theorem r_M_whyNotWritten_0 {v0 : Nat} {v1 : Int32} {v2 : Int32} {v3 : Int32} {q1 : Nat} {n1 : Nat} {h : sn_H} {Q : Option Value → sn_H → Prop}
    (k1 : hK h v0 = (0, 5, 16))
    (k2 : hR h v0 0 = some q1)
    (k3 : hK h q1 = (1, 0, n1))
    (H1 : v1 < (nI 0) → Q (some (.int (-(nI 20001)))) h)
    (H2 : ¬ v1 < (nI 0) → (nI 7) < v1 → Q (some (.int (-(nI 20001)))) h)
    (B3 : ¬ v1 < (nI 0) → ¬ (nI 7) < v1 → vp_in ((nI 36 + (nI 40 * v1)) + (nI 39)) n1)
    (H4 : ¬ v1 < (nI 0) → ¬ (nI 7) < v1 → ¬ (hG h q1 ((nI 36 + (nI 40 * v1)) + (nI 39)).toNatClampNeg) = nI 1 → Q (some (.int (-(nI 20001)))) h)
    (H5 : ¬ v1 < (nI 0) → ¬ (nI 7) < v1 → (hG h q1 ((nI 36 + (nI 40 * v1)) + (nI 39)).toNatClampNeg) = nI 1 → v2 < (nI 0) → Q (some (.int (-(nI 20001)))) h)
    (H6 : ¬ v1 < (nI 0) → ¬ (nI 7) < v1 → (hG h q1 ((nI 36 + (nI 40 * v1)) + (nI 39)).toNatClampNeg) = nI 1 → ¬ v2 < (nI 0) → (nI 11) < v2 → Q (some (.int (-(nI 20001)))) h)
    (H7 : ¬ v1 < (nI 0) → ¬ (nI 7) < v1 → (hG h q1 ((nI 36 + (nI 40 * v1)) + (nI 39)).toNatClampNeg) = nI 1 → ¬ v2 < (nI 0) → ¬ (nI 11) < v2 → v3 < (-(nI 999)) → Q (some (.int (-(nI 20002)))) h)
    (H8 : ¬ v1 < (nI 0) → ¬ (nI 7) < v1 → (hG h q1 ((nI 36 + (nI 40 * v1)) + (nI 39)).toNatClampNeg) = nI 1 → ¬ v2 < (nI 0) → ¬ (nI 11) < v2 → ¬ v3 < (-(nI 999)) → (nI 999) < v3 → Q (some (.int (-(nI 20002)))) h)
    (H9 : ¬ v1 < (nI 0) → ¬ (nI 7) < v1 → (hG h q1 ((nI 36 + (nI 40 * v1)) + (nI 39)).toNatClampNeg) = nI 1 → ¬ v2 < (nI 0) → ¬ (nI 11) < v2 → ¬ v3 < (-(nI 999)) → ¬ (nI 999) < v3 → Q (some (.int (nI 0))) h) :
    wpE 110 0 [some (.ref v0), some (.int v1), some (.int v2), some (.int v3)] [] h (0, 0) Q :=
  vc_s (ct := fun _ => false) 1000 false (And.intro k1 (And.intro (Nat.le_of_ble_eq_true rfl) (And.intro (Nat.le_of_ble_eq_true rfl) (And.intro (Nat.le_of_ble_eq_true rfl) (And.intro (Nat.le_of_ble_eq_true rfl) (r_M_isOpen_0 (v0 := v0) (v1 := v1) (q1 := q1) (n1 := n1) (h := h) k1 k2 k3 (fun c1 => (vc_s (ct := fun _ => false) 1000 false (And.intro (fun c2 => (H1 c1)) (fun c2 => absurd c2 (by decide))))) (fun c3 c4 => (vc_s (ct := fun _ => false) 1000 false (And.intro (fun c5 => (H2 c3 c4)) (fun c5 => absurd c5 (by decide))))) (fun c6 c7 => (B3 c6 c7)) (fun c8 c9 c10 => (vc_s (ct := fun _ => false) 1000 false (And.intro (fun c11 => (H4 c8 c9 c10)) (fun c11 => absurd c11 (by decide))))) (fun c12 c13 c14 => (vc_s (ct := fun _ => false) 1000 false (And.intro (fun c15 => absurd c15 (by decide)) (fun c15 => (And.intro (Nat.le_of_ble_eq_true rfl) (And.intro (Nat.le_of_ble_eq_true rfl) (And.intro (Nat.le_of_ble_eq_true rfl) (And.intro (Nat.le_of_ble_eq_true rfl) (r_M_isKey_0 (v0 := v2) (h := h) (fun c16 => (vc_s (ct := fun _ => false) 1000 false (And.intro (fun c17 => absurd c17 (by decide)) (fun c17 => (H5 c12 c13 c14 c16))))) (fun c18 c19 => (vc_s (ct := fun _ => false) 1000 false (And.intro (fun c20 => absurd c20 (by decide)) (fun c20 => (H6 c12 c13 c14 c18 c19))))) (fun c21 c22 => (vc_s (ct := fun _ => false) 1000 false (And.intro (fun c23 => (And.intro (Nat.le_of_ble_eq_true rfl) (And.intro (Nat.le_of_ble_eq_true rfl) (And.intro (Nat.le_of_ble_eq_true rfl) (And.intro (Nat.le_of_ble_eq_true rfl) (r_M_within_0 (v0 := v3) (v1 := (-(nI 999))) (v2 := (nI 999)) (h := h) (fun c24 => (vc_s (ct := fun _ => false) 1000 false (And.intro (fun c25 => (H7 c12 c13 c14 c21 c22 c24)) (fun c25 => absurd c25 (by decide))))) (fun c26 c27 => (vc_s (ct := fun _ => false) 1000 false (And.intro (fun c28 => (H8 c12 c13 c14 c21 c22 c26 c27)) (fun c28 => absurd c28 (by decide))))) (fun c29 c30 => (vc_s (ct := fun _ => false) 1000 false (And.intro (fun c31 => absurd c31 (by decide)) (fun c31 => (H9 c12 c13 c14 c21 c22 c29 c30))))))))))) (fun c23 => absurd c23 (by decide))))))))))))))))))))
/-- SnapshotRingsModel.ones from 0 -/
theorem r_M_ones_0 {v0 : Int32} {h : sn_H} {Q : Option Value → sn_H → Prop}
    (H1 : wpE 112 4 [some (.int v0), some (.int (nI 0)), some (.int (nI 0))] [] h (0, 0) Q) :
    wpE 112 0 [some (.int v0), none, none] [] h (0, 0) Q :=
  vc_s (ct := fun pc => Nat.beq pc 4) 1000 false (And.intro (Nat.le_of_ble_eq_true rfl) (And.intro (Nat.le_of_ble_eq_true rfl) H1))
/-- SnapshotRingsModel.ones from 4 -/
theorem r_M_ones_4 {v0 : Int32} {v1 : Int32} {v2 : Int32} {h : sn_H} {Q : Option Value → sn_H → Prop}
    (H1 : nI 12 ≤ v2 → Q (some (.int v1)) h)
    (H2 : ¬ nI 12 ≤ v2 → wpE 112 4 [some (.int v0), some (.int (v1 + ((v0 >>> (v2 &&& 31)) &&& nI 1))), some (.int (v2 + nI 1))] [] h (0, 0) Q) :
    wpE 112 4 [some (.int v0), some (.int v1), some (.int v2)] [] h (0, 0) Q :=
  vc_s (ct := fun pc => Nat.beq pc 4) 1000 false (And.intro (fun c1 => (H1 c1)) (fun c2 => (And.intro (Nat.le_of_ble_eq_true rfl) (And.intro (Nat.le_of_ble_eq_true rfl) (H2 c2)))))
/-- SnapshotRingsModel.writes from 0 -/
theorem r_M_writes_0 {v0 : Nat} {v1 : Int32} {v2 : Int32} {v3 : Int32} {q1 : Nat} {n1 : Nat} {h : sn_H} {Q : Option Value → sn_H → Prop}
    (k1 : hK h v0 = (0, 5, 16))
    (k2 : hR h v0 0 = some q1)
    (k3 : hK h q1 = (1, 0, n1))
    (B1 : vp_in ((nI 36 + (nI 40 * v1)) + (nI 2)) n1)
    (B2 : vp_in ((nI 36 + (nI 40 * v1)) + (nI 27 + v2)) n1)
    (H3 : wpE 112 0 [some (.int (hG (setG (setG h q1 ((nI 36 + (nI 40 * v1)) + (nI 2)).toNatClampNeg ((hG h q1 ((nI 36 + (nI 40 * v1)) + (nI 2)).toNatClampNeg) ||| (nI 1 <<< (v2 &&& 31)))) q1 ((nI 36 + (nI 40 * v1)) + (nI 27 + v2)).toNatClampNeg v3) q1 ((nI 36 + (nI 40 * v1)) + (nI 2)).toNatClampNeg)), none, none] [] (setG (setG h q1 ((nI 36 + (nI 40 * v1)) + (nI 2)).toNatClampNeg ((hG h q1 ((nI 36 + (nI 40 * v1)) + (nI 2)).toNatClampNeg) ||| (nI 1 <<< (v2 &&& 31)))) q1 ((nI 36 + (nI 40 * v1)) + (nI 27 + v2)).toNatClampNeg v3) (0, 0) (fun r hh => wpE 111 35 [none, none, none, none] (r.toList ++ []) hh (0, 0) Q)) :
    wpE 111 0 [some (.ref v0), some (.int v1), some (.int v2), some (.int v3)] [] h (0, 0) Q :=
  vc_s (ct := fun _ => false) 1000 false (And.intro k1 (And.intro (Nat.le_of_ble_eq_true rfl) (And.intro (Nat.le_of_ble_eq_true rfl) (And.intro (Nat.le_of_ble_eq_true rfl) (And.intro (Nat.le_of_ble_eq_true rfl) (r_M_slotPart_0 (v0 := v0) (v1 := v1) (v2 := (nI 2)) (q1 := q1) (n1 := n1) (h := h) k1 k2 k3 (B1) ((vc_s (ct := fun _ => false) 1000 false (And.intro k1 (And.intro (Nat.le_of_ble_eq_true rfl) (And.intro (Nat.le_of_ble_eq_true rfl) (And.intro (Nat.le_of_ble_eq_true rfl) (And.intro (Nat.le_of_ble_eq_true rfl) (r_M_setSlot_0 (v0 := v0) (v1 := v1) (v2 := (nI 2)) (v3 := ((hG h q1 ((nI 36 + (nI 40 * v1)) + (nI 2)).toNatClampNeg) ||| (nI 1 <<< (v2 &&& 31)))) (q1 := q1) (n1 := n1) (h := h) k1 k2 k3 (B1) ((vc_s (ct := fun _ => false) 1000 false (And.intro k1 (And.intro (Nat.le_of_ble_eq_true rfl) (And.intro (Nat.le_of_ble_eq_true rfl) (And.intro (Nat.le_of_ble_eq_true rfl) (And.intro (Nat.le_of_ble_eq_true rfl) (r_M_setSlot_0 (v0 := v0) (v1 := v1) (v2 := (nI 27 + v2)) (v3 := v3) (q1 := q1) (n1 := n1) (h := (setG h q1 ((nI 36 + (nI 40 * v1)) + (nI 2)).toNatClampNeg ((hG h q1 ((nI 36 + (nI 40 * v1)) + (nI 2)).toNatClampNeg) ||| (nI 1 <<< (v2 &&& 31))))) k1 k2 k3 (B2) ((vc_s (ct := fun _ => false) 1000 false (And.intro k1 (And.intro (Nat.le_of_ble_eq_true rfl) (And.intro (Nat.le_of_ble_eq_true rfl) (And.intro (Nat.le_of_ble_eq_true rfl) (And.intro (Nat.le_of_ble_eq_true rfl) (r_M_slotPart_0 (v0 := v0) (v1 := v1) (v2 := (nI 2)) (q1 := q1) (n1 := n1) (h := (setG (setG h q1 ((nI 36 + (nI 40 * v1)) + (nI 2)).toNatClampNeg ((hG h q1 ((nI 36 + (nI 40 * v1)) + (nI 2)).toNatClampNeg) ||| (nI 1 <<< (v2 &&& 31)))) q1 ((nI 36 + (nI 40 * v1)) + (nI 27 + v2)).toNatClampNeg v3)) k1 k2 k3 (B1) ((vc_s (ct := fun _ => false) 1000 false (And.intro (Nat.le_of_ble_eq_true rfl) (And.intro (Nat.le_of_ble_eq_true rfl) (And.intro (Nat.le_of_ble_eq_true rfl) (And.intro (Nat.le_of_ble_eq_true rfl) (wpE_m (fun _ _ HH => @wpE_w _ _ [none, none, none, none] _ _ _ _ _ (show LeL [none, none, none, none] [some (.ref v0), some (.int v1), some (.int v2), some (.int v3)] from trivial) HH) H3)))))))))))))))))))))))))))))))))))))
/-- SnapshotRingsModel.writes from 35 -/
theorem r_M_writes_35 {s0 : Int32} {h : sn_H} {Q : Option Value → sn_H → Prop}
    (H1 : Q (some (.int s0)) h) :
    wpE 111 35 [none, none, none, none] [.int s0] h (0, 0) Q :=
  vc_s (ct := fun _ => false) 1000 false H1
/-- SnapshotRingsModel.write from 0 -/
theorem r_M_write_0 {v0 : Nat} {v1 : Int32} {v2 : Int32} {v3 : Int32} {h : sn_H} {Q : Option Value → sn_H → Prop}
    (k1 : hK h v0 = (0, 5, 16))
    (H1 : wpE 110 0 [some (.ref v0), some (.int v1), some (.int v2), some (.int v3)] [] h (0, 0) (fun r hh => wpE 109 7 [some (.ref v0), some (.int v1), some (.int v2), some (.int v3), none] (r.toList ++ []) hh (0, 0) Q)) :
    wpE 109 0 [some (.ref v0), some (.int v1), some (.int v2), some (.int v3), none] [] h (0, 0) Q :=
  vc_s (ct := fun _ => false) 1000 false (And.intro k1 (And.intro (Nat.le_of_ble_eq_true rfl) (And.intro (Nat.le_of_ble_eq_true rfl) (And.intro (Nat.le_of_ble_eq_true rfl) (And.intro (Nat.le_of_ble_eq_true rfl) H1)))))
/-- SnapshotRingsModel.write from 7 -/
theorem r_M_write_7 {v0 : Nat} {v1 : Int32} {v2 : Int32} {v3 : Int32} {s0 : Int32} {h : sn_H} {Q : Option Value → sn_H → Prop}
    (k1 : hK h v0 = (0, 5, 16))
    (H1 : 0 ≤ s0 → wpE 100 0 [some (.ref v0), none] [] h (0, 0) (fun r hh => wpE 109 21 [some (.ref v0), some (.int v1), some (.int v2), some (.int v3), none] (r.toList ++ []) hh (0, 0) Q))
    (H2 : ¬ 0 ≤ s0 → Q (some (.int s0)) h) :
    wpE 109 7 [some (.ref v0), some (.int v1), some (.int v2), some (.int v3), none] [.int s0] h (0, 0) Q :=
  vc_s (ct := fun _ => false) 1000 false (And.intro (Nat.le_of_ble_eq_true rfl) (And.intro (fun c1 => (And.intro k1 (And.intro (Nat.le_of_ble_eq_true rfl) (And.intro (Nat.le_of_ble_eq_true rfl) (And.intro (Nat.le_of_ble_eq_true rfl) (And.intro (Nat.le_of_ble_eq_true rfl) (wpE_m (fun _ _ HH => @wpE_w _ _ [some (.ref v0), some (.int v1), some (.int v2), some (.int v3), none] _ _ _ _ _ (show LeL [some (.ref v0), some (.int v1), some (.int v2), some (.int v3), none] [some (.ref v0), some (.int v1), some (.int v2), some (.int v3), some (.int s0)] from (And.intro rfl (And.intro rfl (And.intro rfl (And.intro rfl trivial))))) HH) (H1 c1)))))))) (fun c2 => (H2 c2))))
/-- SnapshotRingsModel.write from 21 -/
theorem r_M_write_21 {v0 : Nat} {v1 : Int32} {v2 : Int32} {v3 : Int32} {h : sn_H} {Q : Option Value → sn_H → Prop}
    (k1 : hK h v0 = (0, 5, 16))
    (H1 : wpE 111 0 [some (.ref v0), some (.int v1), some (.int v2), some (.int v3)] [] h (0, 0) (fun r hh => wpE 109 28 [none, none, none, none, none] (r.toList ++ []) hh (0, 0) Q)) :
    wpE 109 21 [some (.ref v0), some (.int v1), some (.int v2), some (.int v3), none] [] h (0, 0) Q :=
  vc_s (ct := fun _ => false) 1000 false (And.intro k1 (And.intro (Nat.le_of_ble_eq_true rfl) (And.intro (Nat.le_of_ble_eq_true rfl) (And.intro (Nat.le_of_ble_eq_true rfl) (And.intro (Nat.le_of_ble_eq_true rfl) (wpE_m (fun _ _ HH => @wpE_w _ _ [none, none, none, none, none] _ _ _ _ _ (show LeL [none, none, none, none, none] [some (.ref v0), some (.int v1), some (.int v2), some (.int v3), none] from trivial) HH) H1))))))
/-- SnapshotRingsModel.write from 28 -/
theorem r_M_write_28 {s0 : Int32} {h : sn_H} {Q : Option Value → sn_H → Prop}
    (H1 : Q (some (.int s0)) h) :
    wpE 109 28 [none, none, none, none, none] [.int s0] h (0, 0) Q :=
  vc_s (ct := fun _ => false) 1000 false H1
/-- SnapshotRingsModel.whyNotOpen from 0 -/
theorem r_M_whyNotOpen_0 {v0 : Nat} {v1 : Int32} {q1 : Nat} {n1 : Nat} {h : sn_H} {Q : Option Value → sn_H → Prop}
    (k1 : hK h v0 = (0, 5, 16))
    (k2 : hR h v0 0 = some q1)
    (k3 : hK h q1 = (1, 0, n1))
    (H1 : v1 < (nI 0) → Q (some (.int (-(nI 20001)))) h)
    (H2 : ¬ v1 < (nI 0) → (nI 7) < v1 → Q (some (.int (-(nI 20001)))) h)
    (B3 : ¬ v1 < (nI 0) → ¬ (nI 7) < v1 → vp_in ((nI 36 + (nI 40 * v1)) + (nI 39)) n1)
    (H4 : ¬ v1 < (nI 0) → ¬ (nI 7) < v1 → ¬ (hG h q1 ((nI 36 + (nI 40 * v1)) + (nI 39)).toNatClampNeg) = nI 1 → Q (some (.int (-(nI 20001)))) h)
    (H5 : ¬ v1 < (nI 0) → ¬ (nI 7) < v1 → (hG h q1 ((nI 36 + (nI 40 * v1)) + (nI 39)).toNatClampNeg) = nI 1 → Q (some (.int (nI 0))) h) :
    wpE 114 0 [some (.ref v0), some (.int v1)] [] h (0, 0) Q :=
  vc_s (ct := fun _ => false) 1000 false (And.intro k1 (And.intro (Nat.le_of_ble_eq_true rfl) (And.intro (Nat.le_of_ble_eq_true rfl) (And.intro (Nat.le_of_ble_eq_true rfl) (And.intro (Nat.le_of_ble_eq_true rfl) (r_M_isOpen_0 (v0 := v0) (v1 := v1) (q1 := q1) (n1 := n1) (h := h) k1 k2 k3 (fun c1 => (vc_s (ct := fun _ => false) 1000 false (And.intro (fun c2 => (H1 c1)) (fun c2 => absurd c2 (by decide))))) (fun c3 c4 => (vc_s (ct := fun _ => false) 1000 false (And.intro (fun c5 => (H2 c3 c4)) (fun c5 => absurd c5 (by decide))))) (fun c6 c7 => (B3 c6 c7)) (fun c8 c9 c10 => (vc_s (ct := fun _ => false) 1000 false (And.intro (fun c11 => (H4 c8 c9 c10)) (fun c11 => absurd c11 (by decide))))) (fun c12 c13 c14 => (vc_s (ct := fun _ => false) 1000 false (And.intro (fun c15 => absurd c15 (by decide)) (fun c15 => (H5 c12 c13 c14)))))))))))
/-- SnapshotRingsModel.isOverwritten from 0 -/
theorem r_M_isOverwritten_0 {v0 : Nat} {v1 : Int32} {h : sn_H} {Q : Option Value → sn_H → Prop}
    (H1 : wpE 117 4 [some (.ref v0), some (.int v1), some (.int (nI 0)), some (.int (nI 0))] [] h (0, 0) Q) :
    wpE 117 0 [some (.ref v0), some (.int v1), none, none] [] h (0, 0) Q :=
  vc_s (ct := fun pc => Nat.beq pc 4) 1000 false (And.intro (Nat.le_of_ble_eq_true rfl) (And.intro (Nat.le_of_ble_eq_true rfl) H1))
/-- SnapshotRingsModel.isOverwritten from 4 -/
theorem r_M_isOverwritten_4 {v0 : Nat} {v1 : Int32} {v2 : Int32} {v3 : Int32} {q1 : Nat} {n1 : Nat} {h : sn_H} {Q : Option Value → sn_H → Prop}
    (k1 : hK h v0 = (0, 5, 16))
    (k2 : hR h v0 0 = some q1)
    (k3 : hK h q1 = (1, 0, n1))
    (H1 : nI 12 ≤ v3 → Q (some (.int v2)) h)
    (B2 : nI 12 ≤ v3 → narrow .boolean (.int v2) = .int v2)
    (H3 : ¬ nI 12 ≤ v3 → ¬ v2 = 0 → wpE 117 4 [some (.ref v0), some (.int v1), some (.int (nI 1)), some (.int (v3 + nI 1))] [] h (0, 0) Q)
    (B4 : ¬ nI 12 ≤ v3 → v2 = 0 → vp_in ((nI 36 + (nI 40 * v1)) + (nI 2)) n1)
    (H5 : ¬ nI 12 ≤ v3 → v2 = 0 → ¬ (((hG h q1 ((nI 36 + (nI 40 * v1)) + (nI 2)).toNatClampNeg) >>> (v3 &&& 31)) &&& nI 1) = nI 1 → wpE 117 4 [some (.ref v0), some (.int v1), some (.int (nI 0)), some (.int (v3 + nI 1))] [] h (0, 0) Q)
    (B6 : ¬ nI 12 ≤ v3 → v2 = 0 → (((hG h q1 ((nI 36 + (nI 40 * v1)) + (nI 2)).toNatClampNeg) >>> (v3 &&& 31)) &&& nI 1) = nI 1 → vp_in (nI 24 + v3) n1)
    (B7 : ¬ nI 12 ≤ v3 → v2 = 0 → (((hG h q1 ((nI 36 + (nI 40 * v1)) + (nI 2)).toNatClampNeg) >>> (v3 &&& 31)) &&& nI 1) = nI 1 → vp_in ((nI 36 + (nI 40 * v1)) + (nI 0)) n1)
    (H8 : ¬ nI 12 ≤ v3 → v2 = 0 → (((hG h q1 ((nI 36 + (nI 40 * v1)) + (nI 2)).toNatClampNeg) >>> (v3 &&& 31)) &&& nI 1) = nI 1 → (hG h q1 (nI 24 + v3).toNatClampNeg) ≤ (hG h q1 ((nI 36 + (nI 40 * v1)) + (nI 0)).toNatClampNeg) → wpE 117 4 [some (.ref v0), some (.int v1), some (.int (nI 0)), some (.int (v3 + nI 1))] [] h (0, 0) Q)
    (H9 : ¬ nI 12 ≤ v3 → v2 = 0 → (((hG h q1 ((nI 36 + (nI 40 * v1)) + (nI 2)).toNatClampNeg) >>> (v3 &&& 31)) &&& nI 1) = nI 1 → ¬ (hG h q1 (nI 24 + v3).toNatClampNeg) ≤ (hG h q1 ((nI 36 + (nI 40 * v1)) + (nI 0)).toNatClampNeg) → wpE 117 4 [some (.ref v0), some (.int v1), some (.int (nI 1)), some (.int (v3 + nI 1))] [] h (0, 0) Q) :
    wpE 117 4 [some (.ref v0), some (.int v1), some (.int v2), some (.int v3)] [] h (0, 0) Q :=
  vc_s (ct := fun pc => Nat.beq pc 4) 1000 false (And.intro (fun c1 => (And.intro (B2 c1) (H1 c1))) (fun c2 => (And.intro (fun c3 => (And.intro (Nat.le_of_ble_eq_true rfl) (And.intro (Nat.le_of_ble_eq_true rfl) (H3 c2 c3)))) (fun c4 => (And.intro k1 (And.intro (Nat.le_of_ble_eq_true rfl) (And.intro (Nat.le_of_ble_eq_true rfl) (And.intro (Nat.le_of_ble_eq_true rfl) (And.intro (Nat.le_of_ble_eq_true rfl) (r_M_slotPart_0 (v0 := v0) (v1 := v1) (v2 := (nI 2)) (q1 := q1) (n1 := n1) (h := h) k1 k2 k3 ((B4 c2 c4)) ((vc_s (ct := fun pc => Nat.beq pc 4) 1000 false (And.intro (fun c5 => (And.intro (Nat.le_of_ble_eq_true rfl) (And.intro (Nat.le_of_ble_eq_true rfl) (H5 c2 c4 c5)))) (fun c6 => (And.intro k1 (Exists.intro q1 (And.intro k2 (Exists.intro 0 (Exists.intro n1 (And.intro k3 (And.intro (B6 c2 c4 c6) (And.intro k1 (And.intro (Nat.le_of_ble_eq_true rfl) (And.intro (Nat.le_of_ble_eq_true rfl) (And.intro (Nat.le_of_ble_eq_true rfl) (And.intro (Nat.le_of_ble_eq_true rfl) (r_M_slotPart_0 (v0 := v0) (v1 := v1) (v2 := (nI 0)) (q1 := q1) (n1 := n1) (h := h) k1 k2 k3 ((B7 c2 c4 c6)) ((vc_s (ct := fun pc => Nat.beq pc 4) 1000 false (And.intro (fun c7 => (And.intro (Nat.le_of_ble_eq_true rfl) (And.intro (Nat.le_of_ble_eq_true rfl) (H8 c2 c4 c6 c7)))) (fun c8 => (And.intro (Nat.le_of_ble_eq_true rfl) (And.intro (Nat.le_of_ble_eq_true rfl) (H9 c2 c4 c6 c8))))))))))))))))))))))))))))))))))
/-- SnapshotRingsModel.keptMany from 0 -/
theorem r_M_keptMany_0 {v0 : Nat} {q1 : Nat} {n1 : Nat} {h : sn_H} {Q : Option Value → sn_H → Prop}
    (k1 : hK h v0 = (0, 5, 16))
    (k2 : hR h v0 0 = some q1)
    (k3 : hK h q1 = (1, 0, n1))
    (B1 : vp_in (nI 0) n1)
    (H2 : nI 16 ≤ (hG h q1 (nI 0).toNatClampNeg) → Q (some (.int (nI 16))) h)
    (H3 : ¬ nI 16 ≤ (hG h q1 (nI 0).toNatClampNeg) → Q (some (.int (hG h q1 (nI 0).toNatClampNeg))) h) :
    wpE 121 0 [some (.ref v0)] [] h (0, 0) Q :=
  vc_s (ct := fun _ => false) 1000 false (And.intro k1 (Exists.intro q1 (And.intro k2 (Exists.intro 0 (Exists.intro n1 (And.intro k3 (And.intro B1 (And.intro (fun c1 => (H2 c1)) (fun c2 => (And.intro k1 (Exists.intro q1 (And.intro k2 (Exists.intro 0 (Exists.intro n1 (And.intro k3 (And.intro B1 (H3 c2)))))))))))))))))
/-- SnapshotRingsModel.isNode from 0 -/
theorem r_M_isNode_0 {v0 : Nat} {v1 : Int32} {h : sn_H} {Q : Option Value → sn_H → Prop}
    (k1 : hK h v0 = (0, 5, 16))
    (H1 : ¬ v1 = nI 16 → wpE 121 0 [some (.ref v0)] [] h (0, 0) (fun r hh => wpE 120 29 [none, none] (r.toList ++ [.int v1]) hh (0, 0) Q))
    (H2 : v1 = nI 16 → (hG h v0 6) = -(nI 20006) → Q (some (.int (nI 0))) h)
    (H3 : v1 = nI 16 → ¬ (hG h v0 6) = -(nI 20006) → Q (some (.int (nI 1))) h) :
    wpE 120 0 [some (.ref v0), some (.int v1)] [] h (0, 0) Q :=
  vc_s (ct := fun _ => false) 1000 false (And.intro (fun c1 => (And.intro k1 (And.intro (Nat.le_of_ble_eq_true rfl) (And.intro (Nat.le_of_ble_eq_true rfl) (And.intro (Nat.le_of_ble_eq_true rfl) (And.intro (Nat.le_of_ble_eq_true rfl) (wpE_m (fun _ _ HH => @wpE_w _ _ [none, none] _ _ _ _ _ (show LeL [none, none] [some (.ref v0), some (.int v1)] from trivial) HH) (H1 c1)))))))) (fun c2 => (And.intro k1 (And.intro (fun c3 => (And.intro rfl (H2 c2 c3))) (fun c4 => (And.intro rfl (H3 c2 c4)))))))
/-- SnapshotRingsModel.isNode from 29 -/
theorem r_M_isNode_29 {s0 : Int32} {s1 : Int32} {h : sn_H} {Q : Option Value → sn_H → Prop}
    (H1 : s1 ≤ s0 → Q (some (.int (nI 0))) h)
    (H2 : ¬ s1 ≤ s0 → Q (some (.int (nI 1))) h) :
    wpE 120 29 [none, none] [.int s1, .int s0] h (0, 0) Q :=
  vc_s (ct := fun _ => false) 1000 false (And.intro (fun c1 => (And.intro rfl (H1 c1))) (fun c2 => (And.intro rfl (H2 c2))))
/-- SnapshotRingsModel.firstKept from 0 -/
theorem r_M_firstKept_0 {v0 : Nat} {q1 : Nat} {n1 : Nat} {h : sn_H} {Q : Option Value → sn_H → Prop}
    (k1 : hK h v0 = (0, 5, 16))
    (k2 : hR h v0 0 = some q1)
    (k3 : hK h q1 = (1, 0, n1))
    (B1 : vp_in (nI 0) n1)
    (H2 : wpE 121 0 [some (.ref v0)] [] h (0, 0) (fun r hh => wpE 125 10 [none] (r.toList ++ [.int (hG h q1 (nI 0).toNatClampNeg)]) hh (0, 0) Q)) :
    wpE 125 0 [some (.ref v0)] [] h (0, 0) Q :=
  vc_s (ct := fun _ => false) 1000 false (And.intro k1 (Exists.intro q1 (And.intro k2 (Exists.intro 0 (Exists.intro n1 (And.intro k3 (And.intro B1 (And.intro k1 (And.intro (Nat.le_of_ble_eq_true rfl) (And.intro (Nat.le_of_ble_eq_true rfl) (And.intro (Nat.le_of_ble_eq_true rfl) (And.intro (Nat.le_of_ble_eq_true rfl) (wpE_m (fun _ _ HH => @wpE_w _ _ [none] _ _ _ _ _ (show LeL [none] [some (.ref v0)] from trivial) HH) H2)))))))))))))
/-- SnapshotRingsModel.firstKept from 10 -/
theorem r_M_firstKept_10 {s0 : Int32} {s1 : Int32} {h : sn_H} {Q : Option Value → sn_H → Prop}
    (H1 : Q (some (.int ((s0 - s1) + nI 1))) h) :
    wpE 125 10 [none] [.int s1, .int s0] h (0, 0) Q :=
  vc_s (ct := fun _ => false) 1000 false H1
/-- SnapshotRingsModel.numberOf from 0 -/
theorem r_M_numberOf_0 {v0 : Nat} {v1 : Int32} {q1 : Nat} {n1 : Nat} {h : sn_H} {Q : Option Value → sn_H → Prop}
    (k1 : hK h v0 = (0, 5, 16))
    (k2 : hR h v0 0 = some q1)
    (k3 : hK h q1 = (1, 0, n1))
    (H1 : ¬ v1 = nI 16 → wpE 125 0 [some (.ref v0)] [] h (0, 0) (fun r hh => wpE 124 21 [none, some (.int v1)] (r.toList ++ []) hh (0, 0) Q))
    (B2 : v1 = nI 16 → vp_in (nI 0) n1)
    (H3 : v1 = nI 16 → Q (some (.int ((hG h q1 (nI 0).toNatClampNeg) + nI 1))) h) :
    wpE 124 0 [some (.ref v0), some (.int v1)] [] h (0, 0) Q :=
  vc_s (ct := fun _ => false) 1000 false (And.intro (fun c1 => (And.intro k1 (And.intro (Nat.le_of_ble_eq_true rfl) (And.intro (Nat.le_of_ble_eq_true rfl) (And.intro (Nat.le_of_ble_eq_true rfl) (And.intro (Nat.le_of_ble_eq_true rfl) (wpE_m (fun _ _ HH => @wpE_w _ _ [none, some (.int v1)] _ _ _ _ _ (show LeL [none, some (.int v1)] [some (.ref v0), some (.int v1)] from (And.intro rfl trivial)) HH) (H1 c1)))))))) (fun c2 => (And.intro k1 (Exists.intro q1 (And.intro k2 (Exists.intro 0 (Exists.intro n1 (And.intro k3 (And.intro (B2 c2) (H3 c2))))))))))
/-- SnapshotRingsModel.numberOf from 21 -/
theorem r_M_numberOf_21 {v1 : Int32} {s0 : Int32} {h : sn_H} {Q : Option Value → sn_H → Prop}
    (H1 : Q (some (.int (s0 + v1))) h) :
    wpE 124 21 [none, some (.int v1)] [.int s0] h (0, 0) Q :=
  vc_s (ct := fun _ => false) 1000 false H1
/-- SnapshotRingsModel.keptAt from 0 -/
theorem r_M_keptAt_0 {v0 : Int32} {h : sn_H} {Q : Option Value → sn_H → Prop}
    (H1 : Q (some (.int (nI 356 + (nI 15 * (v0 - v0 / nI 16 * nI 16))))) h) :
    wpE 126 0 [some (.int v0)] [] h (0, 0) Q :=
  vc_s (ct := fun _ => false) 1000 false (And.intro (by decide) H1)
/-- SnapshotRingsModel.placeOf from 0 -/
theorem r_M_placeOf_0 {v0 : Nat} {v1 : Int32} {h : sn_H} {Q : Option Value → sn_H → Prop}
    (k1 : hK h v0 = (0, 5, 16))
    (H1 : ¬ v1 = nI 16 → wpE 124 0 [some (.ref v0), some (.int v1)] [] h (0, 0) (fun r hh => wpE 123 24 [none, none] (r.toList ++ []) hh (0, 0) Q))
    (H2 : v1 = nI 16 → Q (some (.int (nI 36 + (nI 40 * (hG h v0 6))))) h) :
    wpE 123 0 [some (.ref v0), some (.int v1)] [] h (0, 0) Q :=
  vc_s (ct := fun _ => false) 1000 false (And.intro (fun c1 => (And.intro k1 (And.intro (Nat.le_of_ble_eq_true rfl) (And.intro (Nat.le_of_ble_eq_true rfl) (And.intro (Nat.le_of_ble_eq_true rfl) (And.intro (Nat.le_of_ble_eq_true rfl) (wpE_m (fun _ _ HH => @wpE_w _ _ [none, none] _ _ _ _ _ (show LeL [none, none] [some (.ref v0), some (.int v1)] from trivial) HH) (H1 c1)))))))) (fun c2 => (And.intro k1 (H2 c2))))
/-- SnapshotRingsModel.placeOf from 24 -/
theorem r_M_placeOf_24 {s0 : Int32} {h : sn_H} {Q : Option Value → sn_H → Prop}
    (H1 : Q (some (.int (nI 356 + (nI 15 * (s0 - s0 / nI 16 * nI 16))))) h) :
    wpE 123 24 [none, none] [.int s0] h (0, 0) Q :=
  vc_s (ct := fun _ => false) 1000 false (And.intro (Nat.le_of_ble_eq_true rfl) (And.intro (Nat.le_of_ble_eq_true rfl) (And.intro (Nat.le_of_ble_eq_true rfl) (And.intro (Nat.le_of_ble_eq_true rfl) (r_M_keptAt_0 (v0 := s0) (h := h) ((vc_s (ct := fun _ => false) 1000 false H1)))))))
/-- SnapshotRingsModel.dependencyOf from 0 -/
theorem r_M_dependencyOf_0 {v0 : Nat} {v1 : Int32} {v2 : Int32} {h : sn_H} {Q : Option Value → sn_H → Prop}
    (k1 : hK h v0 = (0, 5, 16))
    (H1 : wpE 123 0 [some (.ref v0), some (.int v1)] [] h (0, 0) (fun r hh => wpE 122 5 [some (.ref v0), some (.int v1), some (.int v2), none, none, none, none, none, none] (r.toList ++ []) hh (0, 0) Q)) :
    wpE 122 0 [some (.ref v0), some (.int v1), some (.int v2), none, none, none, none, none, none] [] h (0, 0) Q :=
  vc_s (ct := fun pc => Nat.beq pc 63) 1000 false (And.intro k1 (And.intro (Nat.le_of_ble_eq_true rfl) (And.intro (Nat.le_of_ble_eq_true rfl) (And.intro (Nat.le_of_ble_eq_true rfl) (And.intro (Nat.le_of_ble_eq_true rfl) H1)))))
/-- SnapshotRingsModel.dependencyOf from 5 -/
theorem r_M_dependencyOf_5 {v0 : Nat} {v1 : Int32} {v2 : Int32} {s0 : Int32} {h : sn_H} {Q : Option Value → sn_H → Prop}
    (k1 : hK h v0 = (0, 5, 16))
    (H1 : wpE 123 0 [some (.ref v0), some (.int v2)] [] h (0, 0) (fun r hh => wpE 122 11 [some (.ref v0), some (.int v1), some (.int v2), some (.int s0), none, none, none, none, none] (r.toList ++ []) hh (0, 0) Q)) :
    wpE 122 5 [some (.ref v0), some (.int v1), some (.int v2), none, none, none, none, none, none] [.int s0] h (0, 0) Q :=
  vc_s (ct := fun pc => Nat.beq pc 63) 1000 false (And.intro (Nat.le_of_ble_eq_true rfl) (And.intro k1 (And.intro (Nat.le_of_ble_eq_true rfl) (And.intro (Nat.le_of_ble_eq_true rfl) (And.intro (Nat.le_of_ble_eq_true rfl) (And.intro (Nat.le_of_ble_eq_true rfl) H1))))))
/-- SnapshotRingsModel.dependencyOf from 11 -/
theorem r_M_dependencyOf_11 {v0 : Nat} {v1 : Int32} {v2 : Int32} {v3 : Int32} {s0 : Int32} {q1 : Nat} {n1 : Nat} {h : sn_H} {Q : Option Value → sn_H → Prop}
    (k1 : hK h v0 = (0, 5, 16))
    (k2 : hR h v0 0 = some q1)
    (k3 : hK h q1 = (1, 0, n1))
    (B1 : vp_in (v3 + nI 2) n1)
    (B2 : vp_in (s0 + nI 2) n1)
    (H3 : ((hG h q1 (v3 + nI 2).toNatClampNeg) &&& (hG h q1 (s0 + nI 2).toNatClampNeg)) = 0 → wpE 122 63 [some (.ref v0), some (.int v1), some (.int v2), some (.int v3), some (.int s0), some (.int (nI 0)), some (.int (nI 0)), some (.int (nI 0)), some (.int (nI 0))] [] h (0, 0) Q)
    (H4 : ¬ ((hG h q1 (v3 + nI 2).toNatClampNeg) &&& (hG h q1 (s0 + nI 2).toNatClampNeg)) = 0 → wpE 124 0 [some (.ref v0), some (.int v1)] [] h (0, 0) (fun r hh => wpE 122 39 [some (.ref v0), some (.int v1), some (.int v2), some (.int v3), some (.int s0), none, none, none, none] (r.toList ++ []) hh (0, 0) Q)) :
    wpE 122 11 [some (.ref v0), some (.int v1), some (.int v2), some (.int v3), none, none, none, none, none] [.int s0] h (0, 0) Q :=
  vc_s (ct := fun pc => Nat.beq pc 63) 1000 false (And.intro (Nat.le_of_ble_eq_true rfl) (And.intro k1 (Exists.intro q1 (And.intro k2 (Exists.intro 0 (Exists.intro n1 (And.intro k3 (And.intro B1 (And.intro k1 (Exists.intro q1 (And.intro k2 (Exists.intro 0 (Exists.intro n1 (And.intro k3 (And.intro B2 (And.intro (fun c1 => (And.intro (Nat.le_of_ble_eq_true rfl) (And.intro (Nat.le_of_ble_eq_true rfl) (And.intro (Nat.le_of_ble_eq_true rfl) (And.intro (Nat.le_of_ble_eq_true rfl) (H3 c1)))))) (fun c2 => (And.intro k1 (And.intro (Nat.le_of_ble_eq_true rfl) (And.intro (Nat.le_of_ble_eq_true rfl) (And.intro (Nat.le_of_ble_eq_true rfl) (And.intro (Nat.le_of_ble_eq_true rfl) (H4 c2)))))))))))))))))))))))
/-- SnapshotRingsModel.dependencyOf from 63 -/
theorem r_M_dependencyOf_63 {v0 : Nat} {v1 : Int32} {v2 : Int32} {v3 : Int32} {v4 : Int32} {v5 : Int32} {v6 : Int32} {v7 : Int32} {v8 : Int32} {q1 : Nat} {n1 : Nat} {h : sn_H} {Q : Option Value → sn_H → Prop}
    (k1 : hK h v0 = (0, 5, 16))
    (k2 : hR h v0 0 = some q1)
    (k3 : hK h q1 = (1, 0, n1))
    (H1 : nI 12 ≤ v8 → v6 = 0 → v7 = 0 → Q (some (.int ((v5 + nI 0) + nI 0))) h)
    (H2 : nI 12 ≤ v8 → v6 = 0 → ¬ v7 = 0 → Q (some (.int ((v5 + nI 0) + nI 4))) h)
    (H3 : nI 12 ≤ v8 → ¬ v6 = 0 → v7 = 0 → Q (some (.int ((v5 + nI 2) + nI 0))) h)
    (H4 : nI 12 ≤ v8 → ¬ v6 = 0 → ¬ v7 = 0 → Q (some (.int ((v5 + nI 2) + nI 4))) h)
    (H5 : ¬ nI 12 ≤ v8 → ¬ v6 = 0 → ¬ v7 = 0 → wpE 122 63 [some (.ref v0), some (.int v1), some (.int v2), some (.int v3), some (.int v4), some (.int v5), some (.int (nI 1)), some (.int (nI 1)), some (.int (v8 + nI 1))] [] h (0, 0) Q)
    (B6 : ¬ nI 12 ≤ v8 → ¬ v6 = 0 → v7 = 0 → vp_in (v3 + nI 1) n1)
    (H7 : ¬ nI 12 ≤ v8 → ¬ v6 = 0 → v7 = 0 → ¬ (((hG h q1 (v3 + nI 1).toNatClampNeg) >>> (v8 &&& 31)) &&& nI 1) = nI 1 → wpE 122 63 [some (.ref v0), some (.int v1), some (.int v2), some (.int v3), some (.int v4), some (.int v5), some (.int (nI 1)), some (.int (nI 0)), some (.int (v8 + nI 1))] [] h (0, 0) Q)
    (B8 : ¬ nI 12 ≤ v8 → ¬ v6 = 0 → v7 = 0 → (((hG h q1 (v3 + nI 1).toNatClampNeg) >>> (v8 &&& 31)) &&& nI 1) = nI 1 → vp_in (v4 + nI 2) n1)
    (H9 : ¬ nI 12 ≤ v8 → ¬ v6 = 0 → v7 = 0 → (((hG h q1 (v3 + nI 1).toNatClampNeg) >>> (v8 &&& 31)) &&& nI 1) = nI 1 → ¬ (((hG h q1 (v4 + nI 2).toNatClampNeg) >>> (v8 &&& 31)) &&& nI 1) = nI 1 → wpE 122 63 [some (.ref v0), some (.int v1), some (.int v2), some (.int v3), some (.int v4), some (.int v5), some (.int (nI 1)), some (.int (nI 0)), some (.int (v8 + nI 1))] [] h (0, 0) Q)
    (B10 : ¬ nI 12 ≤ v8 → ¬ v6 = 0 → v7 = 0 → (((hG h q1 (v3 + nI 1).toNatClampNeg) >>> (v8 &&& 31)) &&& nI 1) = nI 1 → (((hG h q1 (v4 + nI 2).toNatClampNeg) >>> (v8 &&& 31)) &&& nI 1) = nI 1 → vp_in ((v3 + nI 3) + v8) n1)
    (H11 : ¬ nI 12 ≤ v8 → ¬ v6 = 0 → v7 = 0 → (((hG h q1 (v3 + nI 1).toNatClampNeg) >>> (v8 &&& 31)) &&& nI 1) = nI 1 → (((hG h q1 (v4 + nI 2).toNatClampNeg) >>> (v8 &&& 31)) &&& nI 1) = nI 1 → wpE 124 0 [some (.ref v0), some (.int v2)] [] h (0, 0) (fun r hh => wpE 122 193 [some (.ref v0), some (.int v1), some (.int v2), some (.int v3), some (.int v4), some (.int v5), some (.int (nI 1)), none, some (.int v8)] (r.toList ++ [.int (hG h q1 ((v3 + nI 3) + v8).toNatClampNeg)]) hh (0, 0) Q))
    (B12 : ¬ nI 12 ≤ v8 → v6 = 0 → vp_in (v4 + nI 1) n1)
    (H13 : ¬ nI 12 ≤ v8 → v6 = 0 → ¬ (((hG h q1 (v4 + nI 1).toNatClampNeg) >>> (v8 &&& 31)) &&& nI 1) = nI 1 → ¬ v7 = 0 → wpE 122 63 [some (.ref v0), some (.int v1), some (.int v2), some (.int v3), some (.int v4), some (.int v5), some (.int (nI 0)), some (.int (nI 1)), some (.int (v8 + nI 1))] [] h (0, 0) Q)
    (B14 : ¬ nI 12 ≤ v8 → v6 = 0 → ¬ (((hG h q1 (v4 + nI 1).toNatClampNeg) >>> (v8 &&& 31)) &&& nI 1) = nI 1 → v7 = 0 → vp_in (v3 + nI 1) n1)
    (H15 : ¬ nI 12 ≤ v8 → v6 = 0 → ¬ (((hG h q1 (v4 + nI 1).toNatClampNeg) >>> (v8 &&& 31)) &&& nI 1) = nI 1 → v7 = 0 → ¬ (((hG h q1 (v3 + nI 1).toNatClampNeg) >>> (v8 &&& 31)) &&& nI 1) = nI 1 → wpE 122 63 [some (.ref v0), some (.int v1), some (.int v2), some (.int v3), some (.int v4), some (.int v5), some (.int (nI 0)), some (.int (nI 0)), some (.int (v8 + nI 1))] [] h (0, 0) Q)
    (B16 : ¬ nI 12 ≤ v8 → v6 = 0 → ¬ (((hG h q1 (v4 + nI 1).toNatClampNeg) >>> (v8 &&& 31)) &&& nI 1) = nI 1 → v7 = 0 → (((hG h q1 (v3 + nI 1).toNatClampNeg) >>> (v8 &&& 31)) &&& nI 1) = nI 1 → vp_in (v4 + nI 2) n1)
    (H17 : ¬ nI 12 ≤ v8 → v6 = 0 → ¬ (((hG h q1 (v4 + nI 1).toNatClampNeg) >>> (v8 &&& 31)) &&& nI 1) = nI 1 → v7 = 0 → (((hG h q1 (v3 + nI 1).toNatClampNeg) >>> (v8 &&& 31)) &&& nI 1) = nI 1 → ¬ (((hG h q1 (v4 + nI 2).toNatClampNeg) >>> (v8 &&& 31)) &&& nI 1) = nI 1 → wpE 122 63 [some (.ref v0), some (.int v1), some (.int v2), some (.int v3), some (.int v4), some (.int v5), some (.int (nI 0)), some (.int (nI 0)), some (.int (v8 + nI 1))] [] h (0, 0) Q)
    (B18 : ¬ nI 12 ≤ v8 → v6 = 0 → ¬ (((hG h q1 (v4 + nI 1).toNatClampNeg) >>> (v8 &&& 31)) &&& nI 1) = nI 1 → v7 = 0 → (((hG h q1 (v3 + nI 1).toNatClampNeg) >>> (v8 &&& 31)) &&& nI 1) = nI 1 → (((hG h q1 (v4 + nI 2).toNatClampNeg) >>> (v8 &&& 31)) &&& nI 1) = nI 1 → vp_in ((v3 + nI 3) + v8) n1)
    (H19 : ¬ nI 12 ≤ v8 → v6 = 0 → ¬ (((hG h q1 (v4 + nI 1).toNatClampNeg) >>> (v8 &&& 31)) &&& nI 1) = nI 1 → v7 = 0 → (((hG h q1 (v3 + nI 1).toNatClampNeg) >>> (v8 &&& 31)) &&& nI 1) = nI 1 → (((hG h q1 (v4 + nI 2).toNatClampNeg) >>> (v8 &&& 31)) &&& nI 1) = nI 1 → wpE 124 0 [some (.ref v0), some (.int v2)] [] h (0, 0) (fun r hh => wpE 122 193 [some (.ref v0), some (.int v1), some (.int v2), some (.int v3), some (.int v4), some (.int v5), some (.int (nI 0)), none, some (.int v8)] (r.toList ++ [.int (hG h q1 ((v3 + nI 3) + v8).toNatClampNeg)]) hh (0, 0) Q))
    (B20 : ¬ nI 12 ≤ v8 → v6 = 0 → (((hG h q1 (v4 + nI 1).toNatClampNeg) >>> (v8 &&& 31)) &&& nI 1) = nI 1 → vp_in (v3 + nI 2) n1)
    (H21 : ¬ nI 12 ≤ v8 → v6 = 0 → (((hG h q1 (v4 + nI 1).toNatClampNeg) >>> (v8 &&& 31)) &&& nI 1) = nI 1 → ¬ (((hG h q1 (v3 + nI 2).toNatClampNeg) >>> (v8 &&& 31)) &&& nI 1) = nI 1 → ¬ v7 = 0 → wpE 122 63 [some (.ref v0), some (.int v1), some (.int v2), some (.int v3), some (.int v4), some (.int v5), some (.int (nI 0)), some (.int (nI 1)), some (.int (v8 + nI 1))] [] h (0, 0) Q)
    (B22 : ¬ nI 12 ≤ v8 → v6 = 0 → (((hG h q1 (v4 + nI 1).toNatClampNeg) >>> (v8 &&& 31)) &&& nI 1) = nI 1 → ¬ (((hG h q1 (v3 + nI 2).toNatClampNeg) >>> (v8 &&& 31)) &&& nI 1) = nI 1 → v7 = 0 → vp_in (v3 + nI 1) n1)
    (H23 : ¬ nI 12 ≤ v8 → v6 = 0 → (((hG h q1 (v4 + nI 1).toNatClampNeg) >>> (v8 &&& 31)) &&& nI 1) = nI 1 → ¬ (((hG h q1 (v3 + nI 2).toNatClampNeg) >>> (v8 &&& 31)) &&& nI 1) = nI 1 → v7 = 0 → ¬ (((hG h q1 (v3 + nI 1).toNatClampNeg) >>> (v8 &&& 31)) &&& nI 1) = nI 1 → wpE 122 63 [some (.ref v0), some (.int v1), some (.int v2), some (.int v3), some (.int v4), some (.int v5), some (.int (nI 0)), some (.int (nI 0)), some (.int (v8 + nI 1))] [] h (0, 0) Q)
    (B24 : ¬ nI 12 ≤ v8 → v6 = 0 → (((hG h q1 (v4 + nI 1).toNatClampNeg) >>> (v8 &&& 31)) &&& nI 1) = nI 1 → ¬ (((hG h q1 (v3 + nI 2).toNatClampNeg) >>> (v8 &&& 31)) &&& nI 1) = nI 1 → v7 = 0 → (((hG h q1 (v3 + nI 1).toNatClampNeg) >>> (v8 &&& 31)) &&& nI 1) = nI 1 → vp_in (v4 + nI 2) n1)
    (H25 : ¬ nI 12 ≤ v8 → v6 = 0 → (((hG h q1 (v4 + nI 1).toNatClampNeg) >>> (v8 &&& 31)) &&& nI 1) = nI 1 → ¬ (((hG h q1 (v3 + nI 2).toNatClampNeg) >>> (v8 &&& 31)) &&& nI 1) = nI 1 → v7 = 0 → (((hG h q1 (v3 + nI 1).toNatClampNeg) >>> (v8 &&& 31)) &&& nI 1) = nI 1 → ¬ (((hG h q1 (v4 + nI 2).toNatClampNeg) >>> (v8 &&& 31)) &&& nI 1) = nI 1 → wpE 122 63 [some (.ref v0), some (.int v1), some (.int v2), some (.int v3), some (.int v4), some (.int v5), some (.int (nI 0)), some (.int (nI 0)), some (.int (v8 + nI 1))] [] h (0, 0) Q)
    (B26 : ¬ nI 12 ≤ v8 → v6 = 0 → (((hG h q1 (v4 + nI 1).toNatClampNeg) >>> (v8 &&& 31)) &&& nI 1) = nI 1 → ¬ (((hG h q1 (v3 + nI 2).toNatClampNeg) >>> (v8 &&& 31)) &&& nI 1) = nI 1 → v7 = 0 → (((hG h q1 (v3 + nI 1).toNatClampNeg) >>> (v8 &&& 31)) &&& nI 1) = nI 1 → (((hG h q1 (v4 + nI 2).toNatClampNeg) >>> (v8 &&& 31)) &&& nI 1) = nI 1 → vp_in ((v3 + nI 3) + v8) n1)
    (H27 : ¬ nI 12 ≤ v8 → v6 = 0 → (((hG h q1 (v4 + nI 1).toNatClampNeg) >>> (v8 &&& 31)) &&& nI 1) = nI 1 → ¬ (((hG h q1 (v3 + nI 2).toNatClampNeg) >>> (v8 &&& 31)) &&& nI 1) = nI 1 → v7 = 0 → (((hG h q1 (v3 + nI 1).toNatClampNeg) >>> (v8 &&& 31)) &&& nI 1) = nI 1 → (((hG h q1 (v4 + nI 2).toNatClampNeg) >>> (v8 &&& 31)) &&& nI 1) = nI 1 → wpE 124 0 [some (.ref v0), some (.int v2)] [] h (0, 0) (fun r hh => wpE 122 193 [some (.ref v0), some (.int v1), some (.int v2), some (.int v3), some (.int v4), some (.int v5), some (.int (nI 0)), none, some (.int v8)] (r.toList ++ [.int (hG h q1 ((v3 + nI 3) + v8).toNatClampNeg)]) hh (0, 0) Q))
    (B28 : ¬ nI 12 ≤ v8 → v6 = 0 → (((hG h q1 (v4 + nI 1).toNatClampNeg) >>> (v8 &&& 31)) &&& nI 1) = nI 1 → (((hG h q1 (v3 + nI 2).toNatClampNeg) >>> (v8 &&& 31)) &&& nI 1) = nI 1 → vp_in ((v4 + nI 3) + v8) n1)
    (H29 : ¬ nI 12 ≤ v8 → v6 = 0 → (((hG h q1 (v4 + nI 1).toNatClampNeg) >>> (v8 &&& 31)) &&& nI 1) = nI 1 → (((hG h q1 (v3 + nI 2).toNatClampNeg) >>> (v8 &&& 31)) &&& nI 1) = nI 1 → wpE 124 0 [some (.ref v0), some (.int v1)] [] h (0, 0) (fun r hh => wpE 122 127 [some (.ref v0), some (.int v1), some (.int v2), some (.int v3), some (.int v4), some (.int v5), none, some (.int v7), some (.int v8)] (r.toList ++ [.int (hG h q1 ((v4 + nI 3) + v8).toNatClampNeg)]) hh (0, 0) Q)) :
    wpE 122 63 [some (.ref v0), some (.int v1), some (.int v2), some (.int v3), some (.int v4), some (.int v5), some (.int v6), some (.int v7), some (.int v8)] [] h (0, 0) Q :=
  vc_s (ct := fun pc => Nat.beq pc 63) 1000 false (And.intro (fun c1 => (And.intro (fun c2 => (And.intro (fun c3 => (H1 c1 c2 c3)) (fun c4 => (H2 c1 c2 c4)))) (fun c5 => (And.intro (fun c6 => (H3 c1 c5 c6)) (fun c7 => (H4 c1 c5 c7)))))) (fun c8 => (And.intro (fun c9 => (And.intro (Nat.le_of_ble_eq_true rfl) (And.intro (fun c10 => (And.intro (Nat.le_of_ble_eq_true rfl) (And.intro (Nat.le_of_ble_eq_true rfl) (H5 c8 c9 c10)))) (fun c11 => (And.intro k1 (Exists.intro q1 (And.intro k2 (Exists.intro 0 (Exists.intro n1 (And.intro k3 (And.intro (B6 c8 c9 c11) (And.intro (fun c12 => (And.intro (Nat.le_of_ble_eq_true rfl) (And.intro (Nat.le_of_ble_eq_true rfl) (H7 c8 c9 c11 c12)))) (fun c13 => (And.intro k1 (Exists.intro q1 (And.intro k2 (Exists.intro 0 (Exists.intro n1 (And.intro k3 (And.intro (B8 c8 c9 c11 c13) (And.intro (fun c14 => (And.intro (Nat.le_of_ble_eq_true rfl) (And.intro (Nat.le_of_ble_eq_true rfl) (H9 c8 c9 c11 c13 c14)))) (fun c15 => (And.intro k1 (Exists.intro q1 (And.intro k2 (Exists.intro 0 (Exists.intro n1 (And.intro k3 (And.intro (B10 c8 c9 c11 c13 c15) (And.intro k1 (And.intro (Nat.le_of_ble_eq_true rfl) (And.intro (Nat.le_of_ble_eq_true rfl) (And.intro (Nat.le_of_ble_eq_true rfl) (And.intro (Nat.le_of_ble_eq_true rfl) (wpE_m (fun _ _ HH => @wpE_w _ _ [some (.ref v0), some (.int v1), some (.int v2), some (.int v3), some (.int v4), some (.int v5), some (.int (nI 1)), none, some (.int v8)] _ _ _ _ _ (show LeL [some (.ref v0), some (.int v1), some (.int v2), some (.int v3), some (.int v4), some (.int v5), some (.int (nI 1)), none, some (.int v8)] [some (.ref v0), some (.int v1), some (.int v2), some (.int v3), some (.int v4), some (.int v5), some (.int (nI 1)), some (.int v7), some (.int v8)] from (And.intro rfl (And.intro rfl (And.intro rfl (And.intro rfl (And.intro rfl (And.intro rfl (And.intro rfl (And.intro rfl trivial))))))))) HH) (H11 c8 c9 c11 c13 c15)))))))))))))))))))))))))))))))))))) (fun c16 => (And.intro k1 (Exists.intro q1 (And.intro k2 (Exists.intro 0 (Exists.intro n1 (And.intro k3 (And.intro (B12 c8 c16) (And.intro (fun c17 => (And.intro (Nat.le_of_ble_eq_true rfl) (And.intro (fun c18 => (And.intro (Nat.le_of_ble_eq_true rfl) (And.intro (Nat.le_of_ble_eq_true rfl) (H13 c8 c16 c17 c18)))) (fun c19 => (And.intro k1 (Exists.intro q1 (And.intro k2 (Exists.intro 0 (Exists.intro n1 (And.intro k3 (And.intro (B14 c8 c16 c17 c19) (And.intro (fun c20 => (And.intro (Nat.le_of_ble_eq_true rfl) (And.intro (Nat.le_of_ble_eq_true rfl) (H15 c8 c16 c17 c19 c20)))) (fun c21 => (And.intro k1 (Exists.intro q1 (And.intro k2 (Exists.intro 0 (Exists.intro n1 (And.intro k3 (And.intro (B16 c8 c16 c17 c19 c21) (And.intro (fun c22 => (And.intro (Nat.le_of_ble_eq_true rfl) (And.intro (Nat.le_of_ble_eq_true rfl) (H17 c8 c16 c17 c19 c21 c22)))) (fun c23 => (And.intro k1 (Exists.intro q1 (And.intro k2 (Exists.intro 0 (Exists.intro n1 (And.intro k3 (And.intro (B18 c8 c16 c17 c19 c21 c23) (And.intro k1 (And.intro (Nat.le_of_ble_eq_true rfl) (And.intro (Nat.le_of_ble_eq_true rfl) (And.intro (Nat.le_of_ble_eq_true rfl) (And.intro (Nat.le_of_ble_eq_true rfl) (wpE_m (fun _ _ HH => @wpE_w _ _ [some (.ref v0), some (.int v1), some (.int v2), some (.int v3), some (.int v4), some (.int v5), some (.int (nI 0)), none, some (.int v8)] _ _ _ _ _ (show LeL [some (.ref v0), some (.int v1), some (.int v2), some (.int v3), some (.int v4), some (.int v5), some (.int (nI 0)), none, some (.int v8)] [some (.ref v0), some (.int v1), some (.int v2), some (.int v3), some (.int v4), some (.int v5), some (.int (nI 0)), some (.int v7), some (.int v8)] from (And.intro rfl (And.intro rfl (And.intro rfl (And.intro rfl (And.intro rfl (And.intro rfl (And.intro rfl (And.intro rfl trivial))))))))) HH) (H19 c8 c16 c17 c19 c21 c23)))))))))))))))))))))))))))))))))))) (fun c24 => (And.intro k1 (Exists.intro q1 (And.intro k2 (Exists.intro 0 (Exists.intro n1 (And.intro k3 (And.intro (B20 c8 c16 c24) (And.intro (fun c25 => (And.intro (Nat.le_of_ble_eq_true rfl) (And.intro (fun c26 => (And.intro (Nat.le_of_ble_eq_true rfl) (And.intro (Nat.le_of_ble_eq_true rfl) (H21 c8 c16 c24 c25 c26)))) (fun c27 => (And.intro k1 (Exists.intro q1 (And.intro k2 (Exists.intro 0 (Exists.intro n1 (And.intro k3 (And.intro (B22 c8 c16 c24 c25 c27) (And.intro (fun c28 => (And.intro (Nat.le_of_ble_eq_true rfl) (And.intro (Nat.le_of_ble_eq_true rfl) (H23 c8 c16 c24 c25 c27 c28)))) (fun c29 => (And.intro k1 (Exists.intro q1 (And.intro k2 (Exists.intro 0 (Exists.intro n1 (And.intro k3 (And.intro (B24 c8 c16 c24 c25 c27 c29) (And.intro (fun c30 => (And.intro (Nat.le_of_ble_eq_true rfl) (And.intro (Nat.le_of_ble_eq_true rfl) (H25 c8 c16 c24 c25 c27 c29 c30)))) (fun c31 => (And.intro k1 (Exists.intro q1 (And.intro k2 (Exists.intro 0 (Exists.intro n1 (And.intro k3 (And.intro (B26 c8 c16 c24 c25 c27 c29 c31) (And.intro k1 (And.intro (Nat.le_of_ble_eq_true rfl) (And.intro (Nat.le_of_ble_eq_true rfl) (And.intro (Nat.le_of_ble_eq_true rfl) (And.intro (Nat.le_of_ble_eq_true rfl) (wpE_m (fun _ _ HH => @wpE_w _ _ [some (.ref v0), some (.int v1), some (.int v2), some (.int v3), some (.int v4), some (.int v5), some (.int (nI 0)), none, some (.int v8)] _ _ _ _ _ (show LeL [some (.ref v0), some (.int v1), some (.int v2), some (.int v3), some (.int v4), some (.int v5), some (.int (nI 0)), none, some (.int v8)] [some (.ref v0), some (.int v1), some (.int v2), some (.int v3), some (.int v4), some (.int v5), some (.int (nI 0)), some (.int v7), some (.int v8)] from (And.intro rfl (And.intro rfl (And.intro rfl (And.intro rfl (And.intro rfl (And.intro rfl (And.intro rfl (And.intro rfl trivial))))))))) HH) (H27 c8 c16 c24 c25 c27 c29 c31)))))))))))))))))))))))))))))))))))) (fun c32 => (And.intro k1 (Exists.intro q1 (And.intro k2 (Exists.intro 0 (Exists.intro n1 (And.intro k3 (And.intro (B28 c8 c16 c24 c32) (And.intro k1 (And.intro (Nat.le_of_ble_eq_true rfl) (And.intro (Nat.le_of_ble_eq_true rfl) (And.intro (Nat.le_of_ble_eq_true rfl) (And.intro (Nat.le_of_ble_eq_true rfl) (wpE_m (fun _ _ HH => @wpE_w _ _ [some (.ref v0), some (.int v1), some (.int v2), some (.int v3), some (.int v4), some (.int v5), none, some (.int v7), some (.int v8)] _ _ _ _ _ (show LeL [some (.ref v0), some (.int v1), some (.int v2), some (.int v3), some (.int v4), some (.int v5), none, some (.int v7), some (.int v8)] [some (.ref v0), some (.int v1), some (.int v2), some (.int v3), some (.int v4), some (.int v5), some (.int v6), some (.int v7), some (.int v8)] from (And.intro rfl (And.intro rfl (And.intro rfl (And.intro rfl (And.intro rfl (And.intro rfl (And.intro rfl (And.intro rfl trivial))))))))) HH) (H29 c8 c16 c24 c32))))))))))))))))))))))))))))))))))))
/-- SnapshotRingsModel.dependencyOf from 39 -/
theorem r_M_dependencyOf_39 {v0 : Nat} {v1 : Int32} {v2 : Int32} {v3 : Int32} {v4 : Int32} {s0 : Int32} {h : sn_H} {Q : Option Value → sn_H → Prop}
    (k1 : hK h v0 = (0, 5, 16))
    (H1 : wpE 124 0 [some (.ref v0), some (.int v2)] [] h (0, 0) (fun r hh => wpE 122 44 [some (.ref v0), some (.int v1), some (.int v2), some (.int v3), some (.int v4), none, none, none, none] (r.toList ++ [.int s0]) hh (0, 0) Q)) :
    wpE 122 39 [some (.ref v0), some (.int v1), some (.int v2), some (.int v3), some (.int v4), none, none, none, none] [.int s0] h (0, 0) Q :=
  vc_s (ct := fun pc => Nat.beq pc 63) 1000 false (And.intro k1 (And.intro (Nat.le_of_ble_eq_true rfl) (And.intro (Nat.le_of_ble_eq_true rfl) (And.intro (Nat.le_of_ble_eq_true rfl) (And.intro (Nat.le_of_ble_eq_true rfl) H1)))))
/-- SnapshotRingsModel.dependencyOf from 193 -/
theorem r_M_dependencyOf_193 {v0 : Nat} {v1 : Int32} {v2 : Int32} {v3 : Int32} {v4 : Int32} {v5 : Int32} {v6 : Int32} {v8 : Int32} {s0 : Int32} {s1 : Int32} {h : sn_H} {Q : Option Value → sn_H → Prop}
    (H1 : s1 ≤ s0 → wpE 122 63 [some (.ref v0), some (.int v1), some (.int v2), some (.int v3), some (.int v4), some (.int v5), some (.int v6), some (.int (nI 0)), some (.int (v8 + nI 1))] [] h (0, 0) Q)
    (H2 : ¬ s1 ≤ s0 → wpE 122 63 [some (.ref v0), some (.int v1), some (.int v2), some (.int v3), some (.int v4), some (.int v5), some (.int v6), some (.int (nI 1)), some (.int (v8 + nI 1))] [] h (0, 0) Q) :
    wpE 122 193 [some (.ref v0), some (.int v1), some (.int v2), some (.int v3), some (.int v4), some (.int v5), some (.int v6), none, some (.int v8)] [.int s1, .int s0] h (0, 0) Q :=
  vc_s (ct := fun pc => Nat.beq pc 63) 1000 false (And.intro (fun c1 => (And.intro (Nat.le_of_ble_eq_true rfl) (And.intro (Nat.le_of_ble_eq_true rfl) (H1 c1)))) (fun c2 => (And.intro (Nat.le_of_ble_eq_true rfl) (And.intro (Nat.le_of_ble_eq_true rfl) (H2 c2)))))
/-- SnapshotRingsModel.dependencyOf from 127 -/
theorem r_M_dependencyOf_127 {v0 : Nat} {v1 : Int32} {v2 : Int32} {v3 : Int32} {v4 : Int32} {v5 : Int32} {v7 : Int32} {v8 : Int32} {s0 : Int32} {s1 : Int32} {q1 : Nat} {n1 : Nat} {h : sn_H} {Q : Option Value → sn_H → Prop}
    (k1 : hK h v0 = (0, 5, 16))
    (k2 : hR h v0 0 = some q1)
    (k3 : hK h q1 = (1, 0, n1))
    (H1 : ¬ s0 = s1 → ¬ v7 = 0 → wpE 122 63 [some (.ref v0), some (.int v1), some (.int v2), some (.int v3), some (.int v4), some (.int v5), some (.int (nI 0)), some (.int (nI 1)), some (.int (v8 + nI 1))] [] h (0, 0) Q)
    (B2 : ¬ s0 = s1 → v7 = 0 → vp_in (v3 + nI 1) n1)
    (H3 : ¬ s0 = s1 → v7 = 0 → ¬ (((hG h q1 (v3 + nI 1).toNatClampNeg) >>> (v8 &&& 31)) &&& nI 1) = nI 1 → wpE 122 63 [some (.ref v0), some (.int v1), some (.int v2), some (.int v3), some (.int v4), some (.int v5), some (.int (nI 0)), some (.int (nI 0)), some (.int (v8 + nI 1))] [] h (0, 0) Q)
    (B4 : ¬ s0 = s1 → v7 = 0 → (((hG h q1 (v3 + nI 1).toNatClampNeg) >>> (v8 &&& 31)) &&& nI 1) = nI 1 → vp_in (v4 + nI 2) n1)
    (H5 : ¬ s0 = s1 → v7 = 0 → (((hG h q1 (v3 + nI 1).toNatClampNeg) >>> (v8 &&& 31)) &&& nI 1) = nI 1 → ¬ (((hG h q1 (v4 + nI 2).toNatClampNeg) >>> (v8 &&& 31)) &&& nI 1) = nI 1 → wpE 122 63 [some (.ref v0), some (.int v1), some (.int v2), some (.int v3), some (.int v4), some (.int v5), some (.int (nI 0)), some (.int (nI 0)), some (.int (v8 + nI 1))] [] h (0, 0) Q)
    (B6 : ¬ s0 = s1 → v7 = 0 → (((hG h q1 (v3 + nI 1).toNatClampNeg) >>> (v8 &&& 31)) &&& nI 1) = nI 1 → (((hG h q1 (v4 + nI 2).toNatClampNeg) >>> (v8 &&& 31)) &&& nI 1) = nI 1 → vp_in ((v3 + nI 3) + v8) n1)
    (H7 : ¬ s0 = s1 → v7 = 0 → (((hG h q1 (v3 + nI 1).toNatClampNeg) >>> (v8 &&& 31)) &&& nI 1) = nI 1 → (((hG h q1 (v4 + nI 2).toNatClampNeg) >>> (v8 &&& 31)) &&& nI 1) = nI 1 → wpE 124 0 [some (.ref v0), some (.int v2)] [] h (0, 0) (fun r hh => wpE 122 193 [some (.ref v0), some (.int v1), some (.int v2), some (.int v3), some (.int v4), some (.int v5), some (.int (nI 0)), none, some (.int v8)] (r.toList ++ [.int (hG h q1 ((v3 + nI 3) + v8).toNatClampNeg)]) hh (0, 0) Q))
    (H8 : s0 = s1 → ¬ v7 = 0 → wpE 122 63 [some (.ref v0), some (.int v1), some (.int v2), some (.int v3), some (.int v4), some (.int v5), some (.int (nI 1)), some (.int (nI 1)), some (.int (v8 + nI 1))] [] h (0, 0) Q)
    (B9 : s0 = s1 → v7 = 0 → vp_in (v3 + nI 1) n1)
    (H10 : s0 = s1 → v7 = 0 → ¬ (((hG h q1 (v3 + nI 1).toNatClampNeg) >>> (v8 &&& 31)) &&& nI 1) = nI 1 → wpE 122 63 [some (.ref v0), some (.int v1), some (.int v2), some (.int v3), some (.int v4), some (.int v5), some (.int (nI 1)), some (.int (nI 0)), some (.int (v8 + nI 1))] [] h (0, 0) Q)
    (B11 : s0 = s1 → v7 = 0 → (((hG h q1 (v3 + nI 1).toNatClampNeg) >>> (v8 &&& 31)) &&& nI 1) = nI 1 → vp_in (v4 + nI 2) n1)
    (H12 : s0 = s1 → v7 = 0 → (((hG h q1 (v3 + nI 1).toNatClampNeg) >>> (v8 &&& 31)) &&& nI 1) = nI 1 → ¬ (((hG h q1 (v4 + nI 2).toNatClampNeg) >>> (v8 &&& 31)) &&& nI 1) = nI 1 → wpE 122 63 [some (.ref v0), some (.int v1), some (.int v2), some (.int v3), some (.int v4), some (.int v5), some (.int (nI 1)), some (.int (nI 0)), some (.int (v8 + nI 1))] [] h (0, 0) Q)
    (B13 : s0 = s1 → v7 = 0 → (((hG h q1 (v3 + nI 1).toNatClampNeg) >>> (v8 &&& 31)) &&& nI 1) = nI 1 → (((hG h q1 (v4 + nI 2).toNatClampNeg) >>> (v8 &&& 31)) &&& nI 1) = nI 1 → vp_in ((v3 + nI 3) + v8) n1)
    (H14 : s0 = s1 → v7 = 0 → (((hG h q1 (v3 + nI 1).toNatClampNeg) >>> (v8 &&& 31)) &&& nI 1) = nI 1 → (((hG h q1 (v4 + nI 2).toNatClampNeg) >>> (v8 &&& 31)) &&& nI 1) = nI 1 → wpE 124 0 [some (.ref v0), some (.int v2)] [] h (0, 0) (fun r hh => wpE 122 193 [some (.ref v0), some (.int v1), some (.int v2), some (.int v3), some (.int v4), some (.int v5), some (.int (nI 1)), none, some (.int v8)] (r.toList ++ [.int (hG h q1 ((v3 + nI 3) + v8).toNatClampNeg)]) hh (0, 0) Q)) :
    wpE 122 127 [some (.ref v0), some (.int v1), some (.int v2), some (.int v3), some (.int v4), some (.int v5), none, some (.int v7), some (.int v8)] [.int s1, .int s0] h (0, 0) Q :=
  vc_s (ct := fun pc => Nat.beq pc 63) 1000 false (And.intro (fun c1 => (And.intro (Nat.le_of_ble_eq_true rfl) (And.intro (fun c2 => (And.intro (Nat.le_of_ble_eq_true rfl) (And.intro (Nat.le_of_ble_eq_true rfl) (H1 c1 c2)))) (fun c3 => (And.intro k1 (Exists.intro q1 (And.intro k2 (Exists.intro 0 (Exists.intro n1 (And.intro k3 (And.intro (B2 c1 c3) (And.intro (fun c4 => (And.intro (Nat.le_of_ble_eq_true rfl) (And.intro (Nat.le_of_ble_eq_true rfl) (H3 c1 c3 c4)))) (fun c5 => (And.intro k1 (Exists.intro q1 (And.intro k2 (Exists.intro 0 (Exists.intro n1 (And.intro k3 (And.intro (B4 c1 c3 c5) (And.intro (fun c6 => (And.intro (Nat.le_of_ble_eq_true rfl) (And.intro (Nat.le_of_ble_eq_true rfl) (H5 c1 c3 c5 c6)))) (fun c7 => (And.intro k1 (Exists.intro q1 (And.intro k2 (Exists.intro 0 (Exists.intro n1 (And.intro k3 (And.intro (B6 c1 c3 c5 c7) (And.intro k1 (And.intro (Nat.le_of_ble_eq_true rfl) (And.intro (Nat.le_of_ble_eq_true rfl) (And.intro (Nat.le_of_ble_eq_true rfl) (And.intro (Nat.le_of_ble_eq_true rfl) (wpE_m (fun _ _ HH => @wpE_w _ _ [some (.ref v0), some (.int v1), some (.int v2), some (.int v3), some (.int v4), some (.int v5), some (.int (nI 0)), none, some (.int v8)] _ _ _ _ _ (show LeL [some (.ref v0), some (.int v1), some (.int v2), some (.int v3), some (.int v4), some (.int v5), some (.int (nI 0)), none, some (.int v8)] [some (.ref v0), some (.int v1), some (.int v2), some (.int v3), some (.int v4), some (.int v5), some (.int (nI 0)), some (.int v7), some (.int v8)] from (And.intro rfl (And.intro rfl (And.intro rfl (And.intro rfl (And.intro rfl (And.intro rfl (And.intro rfl (And.intro rfl trivial))))))))) HH) (H7 c1 c3 c5 c7)))))))))))))))))))))))))))))))))))) (fun c8 => (And.intro (Nat.le_of_ble_eq_true rfl) (And.intro (fun c9 => (And.intro (Nat.le_of_ble_eq_true rfl) (And.intro (Nat.le_of_ble_eq_true rfl) (H8 c8 c9)))) (fun c10 => (And.intro k1 (Exists.intro q1 (And.intro k2 (Exists.intro 0 (Exists.intro n1 (And.intro k3 (And.intro (B9 c8 c10) (And.intro (fun c11 => (And.intro (Nat.le_of_ble_eq_true rfl) (And.intro (Nat.le_of_ble_eq_true rfl) (H10 c8 c10 c11)))) (fun c12 => (And.intro k1 (Exists.intro q1 (And.intro k2 (Exists.intro 0 (Exists.intro n1 (And.intro k3 (And.intro (B11 c8 c10 c12) (And.intro (fun c13 => (And.intro (Nat.le_of_ble_eq_true rfl) (And.intro (Nat.le_of_ble_eq_true rfl) (H12 c8 c10 c12 c13)))) (fun c14 => (And.intro k1 (Exists.intro q1 (And.intro k2 (Exists.intro 0 (Exists.intro n1 (And.intro k3 (And.intro (B13 c8 c10 c12 c14) (And.intro k1 (And.intro (Nat.le_of_ble_eq_true rfl) (And.intro (Nat.le_of_ble_eq_true rfl) (And.intro (Nat.le_of_ble_eq_true rfl) (And.intro (Nat.le_of_ble_eq_true rfl) (wpE_m (fun _ _ HH => @wpE_w _ _ [some (.ref v0), some (.int v1), some (.int v2), some (.int v3), some (.int v4), some (.int v5), some (.int (nI 1)), none, some (.int v8)] _ _ _ _ _ (show LeL [some (.ref v0), some (.int v1), some (.int v2), some (.int v3), some (.int v4), some (.int v5), some (.int (nI 1)), none, some (.int v8)] [some (.ref v0), some (.int v1), some (.int v2), some (.int v3), some (.int v4), some (.int v5), some (.int (nI 1)), some (.int v7), some (.int v8)] from (And.intro rfl (And.intro rfl (And.intro rfl (And.intro rfl (And.intro rfl (And.intro rfl (And.intro rfl (And.intro rfl trivial))))))))) HH) (H14 c8 c10 c12 c14)))))))))))))))))))))))))))))))))))))
/-- SnapshotRingsModel.dependencyOf from 44 -/
theorem r_M_dependencyOf_44 {v0 : Nat} {v1 : Int32} {v2 : Int32} {v3 : Int32} {v4 : Int32} {s0 : Int32} {s1 : Int32} {h : sn_H} {Q : Option Value → sn_H → Prop}
    (H1 : s1 ≤ s0 → wpE 122 63 [some (.ref v0), some (.int v1), some (.int v2), some (.int v3), some (.int v4), some (.int (nI 0)), some (.int (nI 0)), some (.int (nI 0)), some (.int (nI 0))] [] h (0, 0) Q)
    (H2 : ¬ s1 ≤ s0 → wpE 122 63 [some (.ref v0), some (.int v1), some (.int v2), some (.int v3), some (.int v4), some (.int (nI 1)), some (.int (nI 0)), some (.int (nI 0)), some (.int (nI 0))] [] h (0, 0) Q) :
    wpE 122 44 [some (.ref v0), some (.int v1), some (.int v2), some (.int v3), some (.int v4), none, none, none, none] [.int s1, .int s0] h (0, 0) Q :=
  vc_s (ct := fun pc => Nat.beq pc 63) 1000 false (And.intro (fun c1 => (And.intro (Nat.le_of_ble_eq_true rfl) (And.intro (Nat.le_of_ble_eq_true rfl) (And.intro (Nat.le_of_ble_eq_true rfl) (And.intro (Nat.le_of_ble_eq_true rfl) (H1 c1)))))) (fun c2 => (And.intro (Nat.le_of_ble_eq_true rfl) (And.intro (Nat.le_of_ble_eq_true rfl) (And.intro (Nat.le_of_ble_eq_true rfl) (And.intro (Nat.le_of_ble_eq_true rfl) (H2 c2)))))))
/-- SnapshotRingsModel.findBehind from 0 -/
theorem r_M_findBehind_0 {v0 : Nat} {v1 : Int32} {h : sn_H} {Q : Option Value → sn_H → Prop}
    (H1 : wpE 119 2 [some (.ref v0), some (.int v1), some (.int (nI 0)), none] [] h (0, 0) Q) :
    wpE 119 0 [some (.ref v0), some (.int v1), none, none] [] h (0, 0) Q :=
  vc_s (ct := fun pc => Nat.beq pc 2 || Nat.beq pc 17) 1000 false (And.intro (Nat.le_of_ble_eq_true rfl) H1)
/-- SnapshotRingsModel.findBehind from 2 -/
theorem r_M_findBehind_2 {v0 : Nat} {v1 : Int32} {v2 : Int32} {q1 : Nat} {n1 : Nat} {h : sn_H} {Q : Option Value → sn_H → Prop}
    (k1 : hK h v0 = (0, 5, 16))
    (k2 : hR h v0 7 = some q1)
    (k3 : hK h q1 = (1, 0, n1))
    (H1 : nI 17 ≤ v2 → Q none h)
    (B2 : ¬ nI 17 ≤ v2 → vp_in v2 n1)
    (H3 : ¬ nI 17 ≤ v2 → wpE 119 17 [some (.ref v0), some (.int v1), some (.int v2), some (.int (nI 0))] [] (setG h q1 v2.toNatClampNeg (nI 0)) (0, 0) Q) :
    wpE 119 2 [some (.ref v0), some (.int v1), some (.int v2), none] [] h (0, 0) Q :=
  vc_s (ct := fun pc => Nat.beq pc 2 || Nat.beq pc 17) 1000 false (And.intro (fun c1 => (And.intro rfl (H1 c1))) (fun c2 => (And.intro k1 (Exists.intro q1 (And.intro k2 (Exists.intro n1 (And.intro k3 (And.intro (B2 c2) (And.intro (Nat.le_of_ble_eq_true rfl) (H3 c2))))))))))
/-- SnapshotRingsModel.findBehind from 17 -/
theorem r_M_findBehind_17 {v0 : Nat} {v1 : Int32} {v2 : Int32} {v3 : Int32} {h : sn_H} {Q : Option Value → sn_H → Prop}
    (k1 : hK h v0 = (0, 5, 16))
    (H1 : nI 17 ≤ v3 → wpE 119 2 [some (.ref v0), some (.int v1), some (.int (v2 + nI 1)), none] [] h (0, 0) Q)
    (H2 : ¬ nI 17 ≤ v3 → v2 = v3 → wpE 119 17 [some (.ref v0), some (.int v1), some (.int v2), some (.int (v3 + nI 1))] [] h (0, 0) Q)
    (H3 : ¬ nI 17 ≤ v3 → ¬ v2 = v3 → wpE 120 0 [some (.ref v0), some (.int v2)] [] h (0, 0) (fun r hh => wpE 119 33 [some (.ref v0), some (.int v1), some (.int v2), some (.int v3)] (r.toList ++ []) hh (0, 0) Q)) :
    wpE 119 17 [some (.ref v0), some (.int v1), some (.int v2), some (.int v3)] [] h (0, 0) Q :=
  vc_s (ct := fun pc => Nat.beq pc 2 || Nat.beq pc 17) 1000 false (And.intro (fun c1 => (And.intro (Nat.le_of_ble_eq_true rfl) (@wpE_w _ _ [some (.ref v0), some (.int v1), some (.int (v2 + nI 1)), none] _ _ _ _ _ (show LeL [some (.ref v0), some (.int v1), some (.int (v2 + nI 1)), none] [some (.ref v0), some (.int v1), some (.int (v2 + nI 1)), some (.int v3)] from (And.intro rfl (And.intro rfl (And.intro rfl trivial)))) (H1 c1)))) (fun c2 => (And.intro (fun c3 => (And.intro (Nat.le_of_ble_eq_true rfl) (H2 c2 c3))) (fun c4 => (And.intro k1 (And.intro (Nat.le_of_ble_eq_true rfl) (And.intro (Nat.le_of_ble_eq_true rfl) (And.intro (Nat.le_of_ble_eq_true rfl) (And.intro (Nat.le_of_ble_eq_true rfl) (H3 c2 c4))))))))))
/-- SnapshotRingsModel.findBehind from 33 -/
theorem r_M_findBehind_33 {v0 : Nat} {v1 : Int32} {v2 : Int32} {v3 : Int32} {s0 : Int32} {h : sn_H} {Q : Option Value → sn_H → Prop}
    (k1 : hK h v0 = (0, 5, 16))
    (H1 : s0 = 0 → wpE 119 17 [some (.ref v0), some (.int v1), some (.int v2), some (.int (v3 + nI 1))] [] h (0, 0) Q)
    (H2 : ¬ s0 = 0 → wpE 120 0 [some (.ref v0), some (.int v3)] [] h (0, 0) (fun r hh => wpE 119 41 [some (.ref v0), some (.int v1), some (.int v2), some (.int v3)] (r.toList ++ []) hh (0, 0) Q)) :
    wpE 119 33 [some (.ref v0), some (.int v1), some (.int v2), some (.int v3)] [.int s0] h (0, 0) Q :=
  vc_s (ct := fun pc => Nat.beq pc 2 || Nat.beq pc 17) 1000 false (And.intro (fun c1 => (And.intro (Nat.le_of_ble_eq_true rfl) (H1 c1))) (fun c2 => (And.intro k1 (And.intro (Nat.le_of_ble_eq_true rfl) (And.intro (Nat.le_of_ble_eq_true rfl) (And.intro (Nat.le_of_ble_eq_true rfl) (And.intro (Nat.le_of_ble_eq_true rfl) (H2 c2))))))))
/-- SnapshotRingsModel.findBehind from 41 -/
theorem r_M_findBehind_41 {v0 : Nat} {v1 : Int32} {v2 : Int32} {v3 : Int32} {s0 : Int32} {h : sn_H} {Q : Option Value → sn_H → Prop}
    (k1 : hK h v0 = (0, 5, 16))
    (H1 : s0 = 0 → wpE 119 17 [some (.ref v0), some (.int v1), some (.int v2), some (.int (v3 + nI 1))] [] h (0, 0) Q)
    (H2 : ¬ s0 = 0 → wpE 122 0 [some (.ref v0), some (.int v2), some (.int v3), none, none, none, none, none, none] [] h (0, 0) (fun r hh => wpE 119 50 [some (.ref v0), some (.int v1), some (.int v2), some (.int v3)] (r.toList ++ []) hh (0, 0) Q)) :
    wpE 119 41 [some (.ref v0), some (.int v1), some (.int v2), some (.int v3)] [.int s0] h (0, 0) Q :=
  vc_s (ct := fun pc => Nat.beq pc 2 || Nat.beq pc 17) 1000 false (And.intro (fun c1 => (And.intro (Nat.le_of_ble_eq_true rfl) (H1 c1))) (fun c2 => (And.intro k1 (And.intro (Nat.le_of_ble_eq_true rfl) (And.intro (Nat.le_of_ble_eq_true rfl) (And.intro (Nat.le_of_ble_eq_true rfl) (And.intro (Nat.le_of_ble_eq_true rfl) (H2 c2))))))))
/-- SnapshotRingsModel.findBehind from 50 -/
theorem r_M_findBehind_50 {v0 : Nat} {v1 : Int32} {v2 : Int32} {v3 : Int32} {s0 : Int32} {q1 : Nat} {n1 : Nat} {h : sn_H} {Q : Option Value → sn_H → Prop}
    (k1 : hK h v0 = (0, 5, 16))
    (k2 : hR h v0 7 = some q1)
    (k3 : hK h q1 = (1, 0, n1))
    (H1 : (s0 &&& v1) = 0 → wpE 119 17 [some (.ref v0), some (.int v1), some (.int v2), some (.int (v3 + nI 1))] [] h (0, 0) Q)
    (B2 : ¬ (s0 &&& v1) = 0 → vp_in v2 n1)
    (H3 : ¬ (s0 &&& v1) = 0 → wpE 119 17 [some (.ref v0), some (.int v1), some (.int v2), some (.int (v3 + nI 1))] [] (setG h q1 v2.toNatClampNeg ((hG h q1 v2.toNatClampNeg) ||| (nI 1 <<< (v3 &&& 31)))) (0, 0) Q) :
    wpE 119 50 [some (.ref v0), some (.int v1), some (.int v2), some (.int v3)] [.int s0] h (0, 0) Q :=
  vc_s (ct := fun pc => Nat.beq pc 2 || Nat.beq pc 17) 1000 false (And.intro (fun c1 => (And.intro (Nat.le_of_ble_eq_true rfl) (H1 c1))) (fun c2 => (And.intro k1 (Exists.intro q1 (And.intro k2 (And.intro rfl (And.intro rfl (Exists.intro 0 (Exists.intro n1 (And.intro k3 (And.intro (B2 c2) (Exists.intro n1 (And.intro k3 (And.intro (B2 c2) (And.intro (Nat.le_of_ble_eq_true rfl) (H3 c2))))))))))))))))
/-- SnapshotRingsModel.findFar from 0 -/
theorem r_M_findFar_0 {v0 : Nat} {v1 : Int32} {h : sn_H} {Q : Option Value → sn_H → Prop}
    (H1 : wpE 127 2 [some (.ref v0), some (.int v1), some (.int (nI 0)), none, none] [] h (0, 0) Q) :
    wpE 127 0 [some (.ref v0), some (.int v1), none, none, none] [] h (0, 0) Q :=
  vc_s (ct := fun pc => Nat.beq pc 2 || Nat.beq pc 34 || Nat.beq pc 42 || Nat.beq pc 51) 1000 false (And.intro (Nat.le_of_ble_eq_true rfl) H1)
/-- SnapshotRingsModel.findFar from 2 -/
theorem r_M_findFar_2 {v0 : Nat} {v1 : Int32} {v2 : Int32} {q1 : Nat} {n1 : Nat} {h : sn_H} {Q : Option Value → sn_H → Prop}
    (k1 : hK h v0 = (0, 5, 16))
    (k2 : hR h v0 8 = some q1)
    (k3 : hK h q1 = (1, 0, n1))
    (H1 : nI 17 ≤ v2 → wpE 127 34 [some (.ref v0), none, some (.int (nI 1)), none, none] [] h (0, 0) Q)
    (B2 : ¬ nI 17 ≤ v2 → ¬ v2 = v1 → vp_in v2 n1)
    (H3 : ¬ nI 17 ≤ v2 → ¬ v2 = v1 → wpE 127 2 [some (.ref v0), some (.int v1), some (.int (v2 + nI 1)), none, none] [] (setG h q1 v2.toNatClampNeg (-(nI 20006))) (0, 0) Q)
    (B4 : ¬ nI 17 ≤ v2 → v2 = v1 → vp_in v2 n1)
    (H5 : ¬ nI 17 ≤ v2 → v2 = v1 → wpE 127 2 [some (.ref v0), some (.int v1), some (.int (v2 + nI 1)), none, none] [] (setG h q1 v2.toNatClampNeg (nI 0)) (0, 0) Q) :
    wpE 127 2 [some (.ref v0), some (.int v1), some (.int v2), none, none] [] h (0, 0) Q :=
  vc_s (ct := fun pc => Nat.beq pc 2 || Nat.beq pc 34 || Nat.beq pc 42 || Nat.beq pc 51) 1000 false (And.intro (fun c1 => (And.intro (Nat.le_of_ble_eq_true rfl) (@wpE_w _ _ [some (.ref v0), none, some (.int (nI 1)), none, none] _ _ _ _ _ (show LeL [some (.ref v0), none, some (.int (nI 1)), none, none] [some (.ref v0), some (.int v1), some (.int (nI 1)), none, none] from (And.intro rfl (And.intro rfl trivial))) (H1 c1)))) (fun c2 => (And.intro k1 (Exists.intro q1 (And.intro k2 (And.intro (fun c3 => (Exists.intro n1 (And.intro k3 (And.intro (B2 c2 c3) (And.intro (Nat.le_of_ble_eq_true rfl) (H3 c2 c3)))))) (fun c4 => (Exists.intro n1 (And.intro k3 (And.intro (B4 c2 c4) (And.intro (Nat.le_of_ble_eq_true rfl) (H5 c2 c4))))))))))))
/-- SnapshotRingsModel.findFar from 34 -/
theorem r_M_findFar_34 {v0 : Nat} {v2 : Int32} {h : sn_H} {Q : Option Value → sn_H → Prop}
    (H1 : nI 17 ≤ v2 → Q none h)
    (H2 : ¬ nI 17 ≤ v2 → wpE 127 42 [some (.ref v0), none, some (.int v2), some (.int (nI 0)), none] [] h (0, 0) Q) :
    wpE 127 34 [some (.ref v0), none, some (.int v2), none, none] [] h (0, 0) Q :=
  vc_s (ct := fun pc => Nat.beq pc 2 || Nat.beq pc 34 || Nat.beq pc 42 || Nat.beq pc 51) 1000 false (And.intro (fun c1 => (And.intro rfl (H1 c1))) (fun c2 => (And.intro (Nat.le_of_ble_eq_true rfl) (H2 c2))))
/-- SnapshotRingsModel.findFar from 42 -/
theorem r_M_findFar_42 {v0 : Nat} {v2 : Int32} {v3 : Int32} {h : sn_H} {Q : Option Value → sn_H → Prop}
    (H1 : nI 17 ≤ v3 → wpE 127 34 [some (.ref v0), none, some (.int (v2 + nI 1)), none, none] [] h (0, 0) Q)
    (H2 : ¬ nI 17 ≤ v3 → wpE 127 51 [some (.ref v0), none, some (.int v2), some (.int v3), some (.int (nI 0))] [] h (0, 0) Q) :
    wpE 127 42 [some (.ref v0), none, some (.int v2), some (.int v3), none] [] h (0, 0) Q :=
  vc_s (ct := fun pc => Nat.beq pc 2 || Nat.beq pc 34 || Nat.beq pc 42 || Nat.beq pc 51) 1000 false (And.intro (fun c1 => (And.intro (Nat.le_of_ble_eq_true rfl) (@wpE_w _ _ [some (.ref v0), none, some (.int (v2 + nI 1)), none, none] _ _ _ _ _ (show LeL [some (.ref v0), none, some (.int (v2 + nI 1)), none, none] [some (.ref v0), none, some (.int (v2 + nI 1)), some (.int v3), none] from (And.intro rfl (And.intro rfl trivial))) (H1 c1)))) (fun c2 => (And.intro (Nat.le_of_ble_eq_true rfl) (H2 c2))))
/-- SnapshotRingsModel.findFar from 51 -/
theorem r_M_findFar_51 {v0 : Nat} {v2 : Int32} {v3 : Int32} {v4 : Int32} {q1 : Nat} {n1 : Nat} {q2 : Nat} {n2 : Nat} {h : sn_H} {Q : Option Value → sn_H → Prop}
    (k1 : hK h v0 = (0, 5, 16))
    (k2 : hR h v0 8 = some q1)
    (k3 : hK h q1 = (1, 0, n1))
    (k4 : hR h v0 7 = some q2)
    (k5 : hK h q2 = (1, 0, n2))
    (H1 : nI 17 ≤ v4 → wpE 127 42 [some (.ref v0), none, some (.int v2), some (.int (v3 + nI 1)), none] [] h (0, 0) Q)
    (B2 : ¬ nI 17 ≤ v4 → vp_in v3 n1)
    (H3 : ¬ nI 17 ≤ v4 → ¬ (hG h q1 v3.toNatClampNeg) = -(nI 20006) → wpE 127 51 [some (.ref v0), none, some (.int v2), some (.int v3), some (.int (v4 + nI 1))] [] (setG h q1 v3.toNatClampNeg (hG h q1 v3.toNatClampNeg)) (0, 0) Q)
    (B4 : ¬ nI 17 ≤ v4 → (hG h q1 v3.toNatClampNeg) = -(nI 20006) → vp_in v3 n2)
    (H5 : ¬ nI 17 ≤ v4 → (hG h q1 v3.toNatClampNeg) = -(nI 20006) → ¬ (((hG h q2 v3.toNatClampNeg) >>> (v4 &&& 31)) &&& nI 1) = nI 1 → wpE 127 51 [some (.ref v0), none, some (.int v2), some (.int v3), some (.int (v4 + nI 1))] [] (setG h q1 v3.toNatClampNeg (hG h q1 v3.toNatClampNeg)) (0, 0) Q)
    (B6 : ¬ nI 17 ≤ v4 → (hG h q1 v3.toNatClampNeg) = -(nI 20006) → (((hG h q2 v3.toNatClampNeg) >>> (v4 &&& 31)) &&& nI 1) = nI 1 → vp_in v4 n1)
    (H7 : ¬ nI 17 ≤ v4 → (hG h q1 v3.toNatClampNeg) = -(nI 20006) → (((hG h q2 v3.toNatClampNeg) >>> (v4 &&& 31)) &&& nI 1) = nI 1 → ¬ (hG h q1 v4.toNatClampNeg) = (v2 - nI 1) → wpE 127 51 [some (.ref v0), none, some (.int v2), some (.int v3), some (.int (v4 + nI 1))] [] (setG h q1 v3.toNatClampNeg (hG h q1 v3.toNatClampNeg)) (0, 0) Q)
    (H8 : ¬ nI 17 ≤ v4 → (hG h q1 v3.toNatClampNeg) = -(nI 20006) → (((hG h q2 v3.toNatClampNeg) >>> (v4 &&& 31)) &&& nI 1) = nI 1 → (hG h q1 v4.toNatClampNeg) = (v2 - nI 1) → wpE 127 51 [some (.ref v0), none, some (.int v2), some (.int v3), some (.int (v4 + nI 1))] [] (setG h q1 v3.toNatClampNeg v2) (0, 0) Q) :
    wpE 127 51 [some (.ref v0), none, some (.int v2), some (.int v3), some (.int v4)] [] h (0, 0) Q :=
  vc_s (ct := fun pc => Nat.beq pc 2 || Nat.beq pc 34 || Nat.beq pc 42 || Nat.beq pc 51) 1000 false (And.intro (fun c1 => (And.intro (Nat.le_of_ble_eq_true rfl) (@wpE_w _ _ [some (.ref v0), none, some (.int v2), some (.int (v3 + nI 1)), none] _ _ _ _ _ (show LeL [some (.ref v0), none, some (.int v2), some (.int (v3 + nI 1)), none] [some (.ref v0), none, some (.int v2), some (.int (v3 + nI 1)), some (.int v4)] from (And.intro rfl (And.intro rfl (And.intro rfl trivial)))) (H1 c1)))) (fun c2 => (And.intro k1 (Exists.intro q1 (And.intro k2 (And.intro k1 (Exists.intro q1 (And.intro k2 (Exists.intro 0 (Exists.intro n1 (And.intro k3 (And.intro (B2 c2) (And.intro (fun c3 => (And.intro k1 (Exists.intro q1 (And.intro k2 (Exists.intro 0 (Exists.intro n1 (And.intro k3 (And.intro (B2 c2) (Exists.intro n1 (And.intro k3 (And.intro (B2 c2) (And.intro (Nat.le_of_ble_eq_true rfl) (H3 c2 c3))))))))))))) (fun c4 => (And.intro k1 (Exists.intro q2 (And.intro k4 (Exists.intro 0 (Exists.intro n2 (And.intro k5 (And.intro (B4 c2 c4) (And.intro (fun c5 => (And.intro k1 (Exists.intro q1 (And.intro k2 (Exists.intro 0 (Exists.intro n1 (And.intro k3 (And.intro (B2 c2) (Exists.intro n1 (And.intro k3 (And.intro (B2 c2) (And.intro (Nat.le_of_ble_eq_true rfl) (H5 c2 c4 c5))))))))))))) (fun c6 => (And.intro k1 (Exists.intro q1 (And.intro k2 (Exists.intro 0 (Exists.intro n1 (And.intro k3 (And.intro (B6 c2 c4 c6) (And.intro (fun c7 => (And.intro k1 (Exists.intro q1 (And.intro k2 (Exists.intro 0 (Exists.intro n1 (And.intro k3 (And.intro (B2 c2) (Exists.intro n1 (And.intro k3 (And.intro (B2 c2) (And.intro (Nat.le_of_ble_eq_true rfl) (H7 c2 c4 c6 c7))))))))))))) (fun c8 => (Exists.intro n1 (And.intro k3 (And.intro (B2 c2) (And.intro (Nat.le_of_ble_eq_true rfl) (H8 c2 c4 c6 c8)))))))))))))))))))))))))))))))))))))
/-- SnapshotRingsModel.nextNode from 0 -/
theorem r_M_nextNode_0 {v0 : Nat} {v1 : Int32} {h : sn_H} {Q : Option Value → sn_H → Prop}
    (H1 : wpE 128 6 [some (.ref v0), some (.int v1), some (.int (-(nI 20006))), some (.int (nI 0)), none] [] h (0, 0) Q) :
    wpE 128 0 [some (.ref v0), some (.int v1), none, none, none] [] h (0, 0) Q :=
  vc_s (ct := fun pc => Nat.beq pc 6) 1000 false (And.intro (Nat.le_of_ble_eq_true rfl) (And.intro (Nat.le_of_ble_eq_true rfl) H1))
/-- SnapshotRingsModel.nextNode from 6 -/
theorem r_M_nextNode_6 {v0 : Nat} {v1 : Int32} {v2 : Int32} {v3 : Int32} {q1 : Nat} {n1 : Nat} {q2 : Nat} {n2 : Nat} {h : sn_H} {Q : Option Value → sn_H → Prop}
    (k1 : hK h v0 = (0, 5, 16))
    (k2 : hR h v0 7 = some q1)
    (k3 : hK h q1 = (1, 0, n1))
    (k4 : hR h v0 8 = some q2)
    (k5 : hK h q2 = (1, 0, n2))
    (H1 : nI 17 ≤ v3 → Q (some (.int v2)) h)
    (B2 : ¬ nI 17 ≤ v3 → vp_in v1 n1)
    (H3 : ¬ nI 17 ≤ v3 → ¬ (((hG h q1 v1.toNatClampNeg) >>> (v3 &&& 31)) &&& nI 1) = nI 1 → wpE 128 6 [some (.ref v0), some (.int v1), some (.int v2), some (.int (v3 + nI 1)), none] [] h (0, 0) Q)
    (B4 : ¬ nI 17 ≤ v3 → (((hG h q1 v1.toNatClampNeg) >>> (v3 &&& 31)) &&& nI 1) = nI 1 → vp_in v3 n2)
    (H5 : ¬ nI 17 ≤ v3 → (((hG h q1 v1.toNatClampNeg) >>> (v3 &&& 31)) &&& nI 1) = nI 1 → (hG h q2 v3.toNatClampNeg) = -(nI 20006) → wpE 128 6 [some (.ref v0), some (.int v1), some (.int v2), some (.int (v3 + nI 1)), none] [] h (0, 0) Q)
    (H6 : ¬ nI 17 ≤ v3 → (((hG h q1 v1.toNatClampNeg) >>> (v3 &&& 31)) &&& nI 1) = nI 1 → ¬ (hG h q2 v3.toNatClampNeg) = -(nI 20006) → v2 = -(nI 20006) → wpE 128 6 [some (.ref v0), some (.int v1), some (.int v3), some (.int (v3 + nI 1)), none] [] h (0, 0) Q)
    (B7 : ¬ nI 17 ≤ v3 → (((hG h q1 v1.toNatClampNeg) >>> (v3 &&& 31)) &&& nI 1) = nI 1 → ¬ (hG h q2 v3.toNatClampNeg) = -(nI 20006) → ¬ v2 = -(nI 20006) → vp_in v2 n2)
    (H8 : ¬ nI 17 ≤ v3 → (((hG h q1 v1.toNatClampNeg) >>> (v3 &&& 31)) &&& nI 1) = nI 1 → ¬ (hG h q2 v3.toNatClampNeg) = -(nI 20006) → ¬ v2 = -(nI 20006) → (hG h q2 v2.toNatClampNeg) ≤ (hG h q2 v3.toNatClampNeg) → wpE 128 6 [some (.ref v0), some (.int v1), some (.int v2), some (.int (v3 + nI 1)), none] [] h (0, 0) Q)
    (H9 : ¬ nI 17 ≤ v3 → (((hG h q1 v1.toNatClampNeg) >>> (v3 &&& 31)) &&& nI 1) = nI 1 → ¬ (hG h q2 v3.toNatClampNeg) = -(nI 20006) → ¬ v2 = -(nI 20006) → ¬ (hG h q2 v2.toNatClampNeg) ≤ (hG h q2 v3.toNatClampNeg) → wpE 128 6 [some (.ref v0), some (.int v1), some (.int v3), some (.int (v3 + nI 1)), none] [] h (0, 0) Q) :
    wpE 128 6 [some (.ref v0), some (.int v1), some (.int v2), some (.int v3), none] [] h (0, 0) Q :=
  vc_s (ct := fun pc => Nat.beq pc 6) 1000 false (And.intro (fun c1 => (H1 c1)) (fun c2 => (And.intro k1 (Exists.intro q1 (And.intro k2 (Exists.intro 0 (Exists.intro n1 (And.intro k3 (And.intro (B2 c2) (And.intro (fun c3 => (And.intro (Nat.le_of_ble_eq_true rfl) (And.intro (fun c4 => (And.intro (Nat.le_of_ble_eq_true rfl) (And.intro (Nat.le_of_ble_eq_true rfl) (@wpE_w _ _ [some (.ref v0), some (.int v1), some (.int v2), some (.int (v3 + nI 1)), none] _ _ _ _ _ (show LeL [some (.ref v0), some (.int v1), some (.int v2), some (.int (v3 + nI 1)), none] [some (.ref v0), some (.int v1), some (.int v2), some (.int (v3 + nI 1)), some (.int (nI 0))] from (And.intro rfl (And.intro rfl (And.intro rfl (And.intro rfl trivial))))) (H3 c2 c3))))) (fun c4 => absurd c4 (by decide))))) (fun c5 => (And.intro k1 (Exists.intro q2 (And.intro k4 (Exists.intro 0 (Exists.intro n2 (And.intro k5 (And.intro (B4 c2 c5) (And.intro (fun c6 => (And.intro (Nat.le_of_ble_eq_true rfl) (And.intro (fun c7 => (And.intro (Nat.le_of_ble_eq_true rfl) (And.intro (Nat.le_of_ble_eq_true rfl) (@wpE_w _ _ [some (.ref v0), some (.int v1), some (.int v2), some (.int (v3 + nI 1)), none] _ _ _ _ _ (show LeL [some (.ref v0), some (.int v1), some (.int v2), some (.int (v3 + nI 1)), none] [some (.ref v0), some (.int v1), some (.int v2), some (.int (v3 + nI 1)), some (.int (nI 0))] from (And.intro rfl (And.intro rfl (And.intro rfl (And.intro rfl trivial))))) (H5 c2 c5 c6))))) (fun c7 => absurd c7 (by decide))))) (fun c8 => (And.intro (Nat.le_of_ble_eq_true rfl) (And.intro (fun c9 => absurd c9 (by decide)) (fun c9 => (And.intro (fun c10 => (And.intro (Nat.le_of_ble_eq_true rfl) (And.intro (Nat.le_of_ble_eq_true rfl) (@wpE_w _ _ [some (.ref v0), some (.int v1), some (.int v3), some (.int (v3 + nI 1)), none] _ _ _ _ _ (show LeL [some (.ref v0), some (.int v1), some (.int v3), some (.int (v3 + nI 1)), none] [some (.ref v0), some (.int v1), some (.int v3), some (.int (v3 + nI 1)), some (.int (nI 1))] from (And.intro rfl (And.intro rfl (And.intro rfl (And.intro rfl trivial))))) (H6 c2 c5 c8 c10))))) (fun c11 => (And.intro k1 (Exists.intro q2 (And.intro k4 (Exists.intro 0 (Exists.intro n2 (And.intro k5 (And.intro (B4 c2 c5) (And.intro k1 (Exists.intro q2 (And.intro k4 (Exists.intro 0 (Exists.intro n2 (And.intro k5 (And.intro (B7 c2 c5 c8 c11) (And.intro (fun c12 => (And.intro (Nat.le_of_ble_eq_true rfl) (And.intro (Nat.le_of_ble_eq_true rfl) (@wpE_w _ _ [some (.ref v0), some (.int v1), some (.int v2), some (.int (v3 + nI 1)), none] _ _ _ _ _ (show LeL [some (.ref v0), some (.int v1), some (.int v2), some (.int (v3 + nI 1)), none] [some (.ref v0), some (.int v1), some (.int v2), some (.int (v3 + nI 1)), some (.int (nI 1))] from (And.intro rfl (And.intro rfl (And.intro rfl (And.intro rfl trivial))))) (H8 c2 c5 c8 c11 c12))))) (fun c13 => (And.intro (Nat.le_of_ble_eq_true rfl) (And.intro (Nat.le_of_ble_eq_true rfl) (@wpE_w _ _ [some (.ref v0), some (.int v1), some (.int v3), some (.int (v3 + nI 1)), none] _ _ _ _ _ (show LeL [some (.ref v0), some (.int v1), some (.int v3), some (.int (v3 + nI 1)), none] [some (.ref v0), some (.int v1), some (.int v3), some (.int (v3 + nI 1)), some (.int (nI 1))] from (And.intro rfl (And.intro rfl (And.intro rfl (And.intro rfl trivial))))) (H9 c2 c5 c8 c11 c13)))))))))))))))))))))))))))))))))))))))))))))
/-- SnapshotRingsModel.hasRing from 0 -/
theorem r_M_hasRing_0 {v0 : Nat} {v1 : Int32} {h : sn_H} {Q : Option Value → sn_H → Prop}
    (k1 : hK h v0 = (0, 5, 16))
    (H1 : wpE 119 0 [some (.ref v0), some (.int (nI 7)), none, none] [] (setG h v0 6 v1) (0, 0) (fun r hh => wpE 118 11 [some (.ref v0), none] (r.toList ++ []) hh (0, 0) Q)) :
    wpE 118 0 [some (.ref v0), some (.int v1)] [] h (0, 0) Q :=
  vc_s (ct := fun _ => false) 1000 false (And.intro k1 (And.intro rfl (And.intro k1 (And.intro (Nat.le_of_ble_eq_true rfl) (And.intro (Nat.le_of_ble_eq_true rfl) (And.intro (Nat.le_of_ble_eq_true rfl) (And.intro (Nat.le_of_ble_eq_true rfl) (wpE_m (fun _ _ HH => @wpE_w _ _ [some (.ref v0), none] _ _ _ _ _ (show LeL [some (.ref v0), none] [some (.ref v0), some (.int v1)] from (And.intro rfl trivial)) HH) H1))))))))
/-- SnapshotRingsModel.hasRing from 11 -/
theorem r_M_hasRing_11 {v0 : Nat} {h : sn_H} {Q : Option Value → sn_H → Prop}
    (k1 : hK h v0 = (0, 5, 16))
    (H1 : wpE 127 0 [some (.ref v0), some (.int (nI 16)), none, none, none] [] h (0, 0) (fun r hh => wpE 118 17 [some (.ref v0), none] (r.toList ++ []) hh (0, 0) Q)) :
    wpE 118 11 [some (.ref v0), none] [] h (0, 0) Q :=
  vc_s (ct := fun _ => false) 1000 false (And.intro k1 (And.intro (Nat.le_of_ble_eq_true rfl) (And.intro (Nat.le_of_ble_eq_true rfl) (And.intro (Nat.le_of_ble_eq_true rfl) (And.intro (Nat.le_of_ble_eq_true rfl) H1)))))
/-- SnapshotRingsModel.hasRing from 17 -/
theorem r_M_hasRing_17 {v0 : Nat} {h : sn_H} {Q : Option Value → sn_H → Prop}
    (k1 : hK h v0 = (0, 5, 16))
    (H1 : wpE 128 0 [some (.ref v0), some (.int (nI 16)), none, none, none] [] h (0, 0) (fun r hh => wpE 118 23 [none, none] (r.toList ++ []) hh (0, 0) Q)) :
    wpE 118 17 [some (.ref v0), none] [] h (0, 0) Q :=
  vc_s (ct := fun _ => false) 1000 false (And.intro k1 (And.intro (Nat.le_of_ble_eq_true rfl) (And.intro (Nat.le_of_ble_eq_true rfl) (And.intro (Nat.le_of_ble_eq_true rfl) (And.intro (Nat.le_of_ble_eq_true rfl) (wpE_m (fun _ _ HH => @wpE_w _ _ [none, none] _ _ _ _ _ (show LeL [none, none] [some (.ref v0), none] from trivial) HH) H1))))))
/-- SnapshotRingsModel.hasRing from 23 -/
theorem r_M_hasRing_23 {s0 : Int32} {h : sn_H} {Q : Option Value → sn_H → Prop}
    (H1 : s0 = -(nI 20006) → Q (some (.int (nI 0))) h)
    (H2 : ¬ s0 = -(nI 20006) → Q (some (.int (nI 1))) h) :
    wpE 118 23 [none, none] [.int s0] h (0, 0) Q :=
  vc_s (ct := fun _ => false) 1000 false (And.intro (fun c1 => (And.intro rfl (H1 c1))) (fun c2 => (And.intro rfl (H2 c2))))
/-- SnapshotRingsModel.isPivot from 0 -/
theorem r_M_isPivot_0 {v0 : Nat} {v1 : Int32} {h : sn_H} {Q : Option Value → sn_H → Prop}
    (k1 : hK h v0 = (0, 5, 16))
    (H1 : wpE 119 0 [some (.ref v0), some (.int (nI 4)), none, none] [] (setG h v0 6 v1) (0, 0) (fun r hh => wpE 129 10 [some (.ref v0), none, none, none, none, none] (r.toList ++ []) hh (0, 0) Q)) :
    wpE 129 0 [some (.ref v0), some (.int v1), none, none, none, none] [] h (0, 0) Q :=
  vc_s (ct := fun pc => Nat.beq pc 14 || Nat.beq pc 23 || Nat.beq pc 33) 1000 false (And.intro k1 (And.intro rfl (And.intro k1 (And.intro (Nat.le_of_ble_eq_true rfl) (And.intro (Nat.le_of_ble_eq_true rfl) (And.intro (Nat.le_of_ble_eq_true rfl) (And.intro (Nat.le_of_ble_eq_true rfl) (wpE_m (fun _ _ HH => @wpE_w _ _ [some (.ref v0), none, none, none, none, none] _ _ _ _ _ (show LeL [some (.ref v0), none, none, none, none, none] [some (.ref v0), some (.int v1), none, none, none, none] from (And.intro rfl trivial)) HH) H1))))))))
/-- SnapshotRingsModel.isPivot from 10 -/
theorem r_M_isPivot_10 {v0 : Nat} {h : sn_H} {Q : Option Value → sn_H → Prop}
    (H1 : wpE 129 14 [some (.ref v0), none, some (.int (nI 0)), some (.int (nI 0)), none, none] [] h (0, 0) Q) :
    wpE 129 10 [some (.ref v0), none, none, none, none, none] [] h (0, 0) Q :=
  vc_s (ct := fun pc => Nat.beq pc 14 || Nat.beq pc 23 || Nat.beq pc 33) 1000 false (And.intro (Nat.le_of_ble_eq_true rfl) (And.intro (Nat.le_of_ble_eq_true rfl) H1))
/-- SnapshotRingsModel.isPivot from 14 -/
theorem r_M_isPivot_14 {v0 : Nat} {v2 : Int32} {v3 : Int32} {h : sn_H} {Q : Option Value → sn_H → Prop}
    (H1 : nI 17 ≤ v3 → Q (some (.int v2)) h)
    (B2 : nI 17 ≤ v3 → narrow .boolean (.int v2) = .int v2)
    (H3 : ¬ nI 17 ≤ v3 → wpE 129 23 [some (.ref v0), none, some (.int v2), some (.int v3), some (.int (nI 0)), none] [] h (0, 0) Q) :
    wpE 129 14 [some (.ref v0), none, some (.int v2), some (.int v3), none, none] [] h (0, 0) Q :=
  vc_s (ct := fun pc => Nat.beq pc 14 || Nat.beq pc 23 || Nat.beq pc 33) 1000 false (And.intro (fun c1 => (And.intro (B2 c1) (H1 c1))) (fun c2 => (And.intro (Nat.le_of_ble_eq_true rfl) (H3 c2))))
/-- SnapshotRingsModel.isPivot from 23 -/
theorem r_M_isPivot_23 {v0 : Nat} {v2 : Int32} {v3 : Int32} {v4 : Int32} {h : sn_H} {Q : Option Value → sn_H → Prop}
    (H1 : nI 17 ≤ v4 → wpE 129 14 [some (.ref v0), none, some (.int v2), some (.int (v3 + nI 1)), none, none] [] h (0, 0) Q)
    (H2 : ¬ nI 17 ≤ v4 → wpE 129 33 [some (.ref v0), none, some (.int v2), some (.int v3), some (.int v4), some (.int (nI 0))] [] h (0, 0) Q) :
    wpE 129 23 [some (.ref v0), none, some (.int v2), some (.int v3), some (.int v4), none] [] h (0, 0) Q :=
  vc_s (ct := fun pc => Nat.beq pc 14 || Nat.beq pc 23 || Nat.beq pc 33) 1000 false (And.intro (fun c1 => (And.intro (Nat.le_of_ble_eq_true rfl) (@wpE_w _ _ [some (.ref v0), none, some (.int v2), some (.int (v3 + nI 1)), none, none] _ _ _ _ _ (show LeL [some (.ref v0), none, some (.int v2), some (.int (v3 + nI 1)), none, none] [some (.ref v0), none, some (.int v2), some (.int (v3 + nI 1)), some (.int v4), none] from (And.intro rfl (And.intro rfl (And.intro rfl trivial)))) (H1 c1)))) (fun c2 => (And.intro (Nat.le_of_ble_eq_true rfl) (H2 c2))))
/-- SnapshotRingsModel.isPivot from 33 -/
theorem r_M_isPivot_33 {v0 : Nat} {v2 : Int32} {v3 : Int32} {v4 : Int32} {v5 : Int32} {q1 : Nat} {n1 : Nat} {h : sn_H} {Q : Option Value → sn_H → Prop}
    (k1 : hK h v0 = (0, 5, 16))
    (k2 : hR h v0 7 = some q1)
    (k3 : hK h q1 = (1, 0, n1))
    (H1 : nI 17 ≤ v5 → wpE 129 23 [some (.ref v0), none, some (.int v2), some (.int v3), some (.int (v4 + nI 1)), none] [] h (0, 0) Q)
    (H2 : ¬ nI 17 ≤ v5 → ¬ v2 = 0 → wpE 129 33 [some (.ref v0), none, some (.int (nI 1)), some (.int v3), some (.int v4), some (.int (v5 + nI 1))] [] h (0, 0) Q)
    (B3 : ¬ nI 17 ≤ v5 → v2 = 0 → v3 = nI 16 → vp_in v3 n1)
    (H4 : ¬ nI 17 ≤ v5 → v2 = 0 → v3 = nI 16 → ¬ (((hG h q1 v3.toNatClampNeg) >>> (v4 &&& 31)) &&& nI 1) = nI 1 → wpE 129 33 [some (.ref v0), none, some (.int (nI 0)), some (.int v3), some (.int v4), some (.int (v5 + nI 1))] [] h (0, 0) Q)
    (B5 : ¬ nI 17 ≤ v5 → v2 = 0 → v3 = nI 16 → (((hG h q1 v3.toNatClampNeg) >>> (v4 &&& 31)) &&& nI 1) = nI 1 → vp_in v4 n1)
    (H6 : ¬ nI 17 ≤ v5 → v2 = 0 → v3 = nI 16 → (((hG h q1 v3.toNatClampNeg) >>> (v4 &&& 31)) &&& nI 1) = nI 1 → ¬ (((hG h q1 v4.toNatClampNeg) >>> (v5 &&& 31)) &&& nI 1) = nI 1 → wpE 129 33 [some (.ref v0), none, some (.int (nI 0)), some (.int v3), some (.int v4), some (.int (v5 + nI 1))] [] h (0, 0) Q)
    (H7 : ¬ nI 17 ≤ v5 → v2 = 0 → v3 = nI 16 → (((hG h q1 v3.toNatClampNeg) >>> (v4 &&& 31)) &&& nI 1) = nI 1 → (((hG h q1 v4.toNatClampNeg) >>> (v5 &&& 31)) &&& nI 1) = nI 1 → wpE 129 33 [some (.ref v0), none, some (.int (nI 1)), some (.int v3), some (.int v4), some (.int (v5 + nI 1))] [] h (0, 0) Q)
    (B8 : ¬ nI 17 ≤ v5 → v2 = 0 → ¬ v3 = nI 16 → v4 = nI 16 → vp_in v3 n1)
    (H9 : ¬ nI 17 ≤ v5 → v2 = 0 → ¬ v3 = nI 16 → v4 = nI 16 → ¬ (((hG h q1 v3.toNatClampNeg) >>> (v4 &&& 31)) &&& nI 1) = nI 1 → wpE 129 33 [some (.ref v0), none, some (.int (nI 0)), some (.int v3), some (.int v4), some (.int (v5 + nI 1))] [] h (0, 0) Q)
    (B10 : ¬ nI 17 ≤ v5 → v2 = 0 → ¬ v3 = nI 16 → v4 = nI 16 → (((hG h q1 v3.toNatClampNeg) >>> (v4 &&& 31)) &&& nI 1) = nI 1 → vp_in v4 n1)
    (H11 : ¬ nI 17 ≤ v5 → v2 = 0 → ¬ v3 = nI 16 → v4 = nI 16 → (((hG h q1 v3.toNatClampNeg) >>> (v4 &&& 31)) &&& nI 1) = nI 1 → ¬ (((hG h q1 v4.toNatClampNeg) >>> (v5 &&& 31)) &&& nI 1) = nI 1 → wpE 129 33 [some (.ref v0), none, some (.int (nI 0)), some (.int v3), some (.int v4), some (.int (v5 + nI 1))] [] h (0, 0) Q)
    (H12 : ¬ nI 17 ≤ v5 → v2 = 0 → ¬ v3 = nI 16 → v4 = nI 16 → (((hG h q1 v3.toNatClampNeg) >>> (v4 &&& 31)) &&& nI 1) = nI 1 → (((hG h q1 v4.toNatClampNeg) >>> (v5 &&& 31)) &&& nI 1) = nI 1 → wpE 129 33 [some (.ref v0), none, some (.int (nI 1)), some (.int v3), some (.int v4), some (.int (v5 + nI 1))] [] h (0, 0) Q)
    (H13 : ¬ nI 17 ≤ v5 → v2 = 0 → ¬ v3 = nI 16 → ¬ v4 = nI 16 → ¬ v5 = nI 16 → wpE 129 33 [some (.ref v0), none, some (.int (nI 0)), some (.int v3), some (.int v4), some (.int (v5 + nI 1))] [] h (0, 0) Q)
    (B14 : ¬ nI 17 ≤ v5 → v2 = 0 → ¬ v3 = nI 16 → ¬ v4 = nI 16 → v5 = nI 16 → vp_in v3 n1)
    (H15 : ¬ nI 17 ≤ v5 → v2 = 0 → ¬ v3 = nI 16 → ¬ v4 = nI 16 → v5 = nI 16 → ¬ (((hG h q1 v3.toNatClampNeg) >>> (v4 &&& 31)) &&& nI 1) = nI 1 → wpE 129 33 [some (.ref v0), none, some (.int (nI 0)), some (.int v3), some (.int v4), some (.int (v5 + nI 1))] [] h (0, 0) Q)
    (B16 : ¬ nI 17 ≤ v5 → v2 = 0 → ¬ v3 = nI 16 → ¬ v4 = nI 16 → v5 = nI 16 → (((hG h q1 v3.toNatClampNeg) >>> (v4 &&& 31)) &&& nI 1) = nI 1 → vp_in v4 n1)
    (H17 : ¬ nI 17 ≤ v5 → v2 = 0 → ¬ v3 = nI 16 → ¬ v4 = nI 16 → v5 = nI 16 → (((hG h q1 v3.toNatClampNeg) >>> (v4 &&& 31)) &&& nI 1) = nI 1 → ¬ (((hG h q1 v4.toNatClampNeg) >>> (v5 &&& 31)) &&& nI 1) = nI 1 → wpE 129 33 [some (.ref v0), none, some (.int (nI 0)), some (.int v3), some (.int v4), some (.int (v5 + nI 1))] [] h (0, 0) Q)
    (H18 : ¬ nI 17 ≤ v5 → v2 = 0 → ¬ v3 = nI 16 → ¬ v4 = nI 16 → v5 = nI 16 → (((hG h q1 v3.toNatClampNeg) >>> (v4 &&& 31)) &&& nI 1) = nI 1 → (((hG h q1 v4.toNatClampNeg) >>> (v5 &&& 31)) &&& nI 1) = nI 1 → wpE 129 33 [some (.ref v0), none, some (.int (nI 1)), some (.int v3), some (.int v4), some (.int (v5 + nI 1))] [] h (0, 0) Q) :
    wpE 129 33 [some (.ref v0), none, some (.int v2), some (.int v3), some (.int v4), some (.int v5)] [] h (0, 0) Q :=
  vc_s (ct := fun pc => Nat.beq pc 14 || Nat.beq pc 23 || Nat.beq pc 33) 1000 false (And.intro (fun c1 => (And.intro (Nat.le_of_ble_eq_true rfl) (@wpE_w _ _ [some (.ref v0), none, some (.int v2), some (.int v3), some (.int (v4 + nI 1)), none] _ _ _ _ _ (show LeL [some (.ref v0), none, some (.int v2), some (.int v3), some (.int (v4 + nI 1)), none] [some (.ref v0), none, some (.int v2), some (.int v3), some (.int (v4 + nI 1)), some (.int v5)] from (And.intro rfl (And.intro rfl (And.intro rfl (And.intro rfl trivial))))) (H1 c1)))) (fun c2 => (And.intro (fun c3 => (And.intro (Nat.le_of_ble_eq_true rfl) (And.intro (Nat.le_of_ble_eq_true rfl) (H2 c2 c3)))) (fun c4 => (And.intro (fun c5 => (And.intro k1 (Exists.intro q1 (And.intro k2 (Exists.intro 0 (Exists.intro n1 (And.intro k3 (And.intro (B3 c2 c4 c5) (And.intro (fun c6 => (And.intro (Nat.le_of_ble_eq_true rfl) (And.intro (Nat.le_of_ble_eq_true rfl) (H4 c2 c4 c5 c6)))) (fun c7 => (And.intro k1 (Exists.intro q1 (And.intro k2 (Exists.intro 0 (Exists.intro n1 (And.intro k3 (And.intro (B5 c2 c4 c5 c7) (And.intro (fun c8 => (And.intro (Nat.le_of_ble_eq_true rfl) (And.intro (Nat.le_of_ble_eq_true rfl) (H6 c2 c4 c5 c7 c8)))) (fun c9 => (And.intro (Nat.le_of_ble_eq_true rfl) (And.intro (Nat.le_of_ble_eq_true rfl) (H7 c2 c4 c5 c7 c9)))))))))))))))))))))) (fun c10 => (And.intro (fun c11 => (And.intro k1 (Exists.intro q1 (And.intro k2 (Exists.intro 0 (Exists.intro n1 (And.intro k3 (And.intro (B8 c2 c4 c10 c11) (And.intro (fun c12 => (And.intro (Nat.le_of_ble_eq_true rfl) (And.intro (Nat.le_of_ble_eq_true rfl) (H9 c2 c4 c10 c11 c12)))) (fun c13 => (And.intro k1 (Exists.intro q1 (And.intro k2 (Exists.intro 0 (Exists.intro n1 (And.intro k3 (And.intro (B10 c2 c4 c10 c11 c13) (And.intro (fun c14 => (And.intro (Nat.le_of_ble_eq_true rfl) (And.intro (Nat.le_of_ble_eq_true rfl) (H11 c2 c4 c10 c11 c13 c14)))) (fun c15 => (And.intro (Nat.le_of_ble_eq_true rfl) (And.intro (Nat.le_of_ble_eq_true rfl) (H12 c2 c4 c10 c11 c13 c15)))))))))))))))))))))) (fun c16 => (And.intro (fun c17 => (And.intro (Nat.le_of_ble_eq_true rfl) (And.intro (Nat.le_of_ble_eq_true rfl) (H13 c2 c4 c10 c16 c17)))) (fun c18 => (And.intro k1 (Exists.intro q1 (And.intro k2 (Exists.intro 0 (Exists.intro n1 (And.intro k3 (And.intro (B14 c2 c4 c10 c16 c18) (And.intro (fun c19 => (And.intro (Nat.le_of_ble_eq_true rfl) (And.intro (Nat.le_of_ble_eq_true rfl) (H15 c2 c4 c10 c16 c18 c19)))) (fun c20 => (And.intro k1 (Exists.intro q1 (And.intro k2 (Exists.intro 0 (Exists.intro n1 (And.intro k3 (And.intro (B16 c2 c4 c10 c16 c18 c20) (And.intro (fun c21 => (And.intro (Nat.le_of_ble_eq_true rfl) (And.intro (Nat.le_of_ble_eq_true rfl) (H17 c2 c4 c10 c16 c18 c20 c21)))) (fun c22 => (And.intro (Nat.le_of_ble_eq_true rfl) (And.intro (Nat.le_of_ble_eq_true rfl) (H18 c2 c4 c10 c16 c18 c20 c22)))))))))))))))))))))))))))))))
/-- SnapshotRingsModel.whyRefused from 0 -/
theorem r_M_whyRefused_0 {v0 : Nat} {v1 : Int32} {v2 : Int32} {h : sn_H} {Q : Option Value → sn_H → Prop}
    (k1 : hK h v0 = (0, 5, 16))
    (H1 : wpE 117 0 [some (.ref v0), some (.int v1), none, none] [] h (0, 0) (fun r hh => wpE 116 5 [some (.ref v0), some (.int v1), some (.int v2)] (r.toList ++ []) hh (0, 0) Q)) :
    wpE 116 0 [some (.ref v0), some (.int v1), some (.int v2)] [] h (0, 0) Q :=
  vc_s (ct := fun _ => false) 1000 false (And.intro k1 (And.intro (Nat.le_of_ble_eq_true rfl) (And.intro (Nat.le_of_ble_eq_true rfl) (And.intro (Nat.le_of_ble_eq_true rfl) (And.intro (Nat.le_of_ble_eq_true rfl) H1)))))
/-- SnapshotRingsModel.whyRefused from 5 -/
theorem r_M_whyRefused_5 {v0 : Nat} {v1 : Int32} {v2 : Int32} {s0 : Int32} {h : sn_H} {Q : Option Value → sn_H → Prop}
    (k1 : hK h v0 = (0, 5, 16))
    (H1 : s0 = 0 → v2 < nI 1 → ¬ v2 = nI 2 → Q (some (.int (nI 0))) h)
    (H2 : s0 = 0 → v2 < nI 1 → v2 = nI 2 → wpE 129 0 [some (.ref v0), some (.int v1), none, none, none, none] [] h (0, 0) (fun r hh => wpE 116 35 [none, none, none] (r.toList ++ []) hh (0, 0) Q))
    (H3 : s0 = 0 → ¬ v2 < nI 1 → wpE 118 0 [some (.ref v0), some (.int v1)] [] h (0, 0) (fun r hh => wpE 116 20 [some (.ref v0), some (.int v1), some (.int v2)] (r.toList ++ []) hh (0, 0) Q))
    (H4 : ¬ s0 = 0 → Q (some (.int (nI 1))) h) :
    wpE 116 5 [some (.ref v0), some (.int v1), some (.int v2)] [.int s0] h (0, 0) Q :=
  vc_s (ct := fun _ => false) 1000 false (And.intro (fun c1 => (And.intro (fun c2 => (And.intro (fun c3 => (H1 c1 c2 c3)) (fun c4 => (And.intro k1 (And.intro (Nat.le_of_ble_eq_true rfl) (And.intro (Nat.le_of_ble_eq_true rfl) (And.intro (Nat.le_of_ble_eq_true rfl) (And.intro (Nat.le_of_ble_eq_true rfl) (wpE_m (fun _ _ HH => @wpE_w _ _ [none, none, none] _ _ _ _ _ (show LeL [none, none, none] [some (.ref v0), some (.int v1), some (.int v2)] from trivial) HH) (H2 c1 c2 c4)))))))))) (fun c5 => (And.intro k1 (And.intro (Nat.le_of_ble_eq_true rfl) (And.intro (Nat.le_of_ble_eq_true rfl) (And.intro (Nat.le_of_ble_eq_true rfl) (And.intro (Nat.le_of_ble_eq_true rfl) (H3 c1 c5))))))))) (fun c6 => (H4 c6)))
/-- SnapshotRingsModel.whyRefused from 35 -/
theorem r_M_whyRefused_35 {s0 : Int32} {h : sn_H} {Q : Option Value → sn_H → Prop}
    (H1 : s0 = 0 → Q (some (.int (nI 0))) h)
    (H2 : ¬ s0 = 0 → Q (some (.int (nI 3))) h) :
    wpE 116 35 [none, none, none] [.int s0] h (0, 0) Q :=
  vc_s (ct := fun _ => false) 1000 false (And.intro (fun c1 => (H1 c1)) (fun c2 => (H2 c2)))
/-- SnapshotRingsModel.whyRefused from 20 -/
theorem r_M_whyRefused_20 {v0 : Nat} {v1 : Int32} {v2 : Int32} {s0 : Int32} {h : sn_H} {Q : Option Value → sn_H → Prop}
    (k1 : hK h v0 = (0, 5, 16))
    (H1 : s0 = 0 → ¬ v2 = nI 2 → Q (some (.int (nI 0))) h)
    (H2 : s0 = 0 → v2 = nI 2 → wpE 129 0 [some (.ref v0), some (.int v1), none, none, none, none] [] h (0, 0) (fun r hh => wpE 116 35 [none, none, none] (r.toList ++ []) hh (0, 0) Q))
    (H3 : ¬ s0 = 0 → Q (some (.int (nI 2))) h) :
    wpE 116 20 [some (.ref v0), some (.int v1), some (.int v2)] [.int s0] h (0, 0) Q :=
  vc_s (ct := fun _ => false) 1000 false (And.intro (fun c1 => (And.intro (fun c2 => (H1 c1 c2)) (fun c3 => (And.intro k1 (And.intro (Nat.le_of_ble_eq_true rfl) (And.intro (Nat.le_of_ble_eq_true rfl) (And.intro (Nat.le_of_ble_eq_true rfl) (And.intro (Nat.le_of_ble_eq_true rfl) (wpE_m (fun _ _ HH => @wpE_w _ _ [none, none, none] _ _ _ _ _ (show LeL [none, none, none] [some (.ref v0), some (.int v1), some (.int v2)] from trivial) HH) (H2 c1 c3)))))))))) (fun c4 => (H3 c4)))
/-- SnapshotRingsModel.commits from 0 -/
theorem r_M_commits_0 {v0 : Nat} {v1 : Int32} {q1 : Nat} {n1 : Nat} {h : sn_H} {Q : Option Value → sn_H → Prop}
    (k1 : hK h v0 = (0, 5, 16))
    (k2 : hR h v0 0 = some q1)
    (k3 : hK h q1 = (1, 0, n1))
    (B1 : vp_in (nI 1) n1)
    (H2 : wpE 116 0 [some (.ref v0), some (.int v1), some (.int (hG h q1 (nI 1).toNatClampNeg))] [] h (0, 0) (fun r hh => wpE 115 11 [some (.ref v0), some (.int v1), none, none] (r.toList ++ []) hh (0, 0) Q)) :
    wpE 115 0 [some (.ref v0), some (.int v1), none, none] [] h (0, 0) Q :=
  vc_s (ct := fun pc => Nat.beq pc 50 || Nat.beq pc 78 || Nat.beq pc 86 || Nat.beq pc 139) 1000 false (And.intro k1 (Exists.intro q1 (And.intro k2 (Exists.intro 0 (Exists.intro n1 (And.intro k3 (And.intro B1 (And.intro k1 (And.intro (Nat.le_of_ble_eq_true rfl) (And.intro (Nat.le_of_ble_eq_true rfl) (And.intro (Nat.le_of_ble_eq_true rfl) (And.intro (Nat.le_of_ble_eq_true rfl) H2))))))))))))
/-- SnapshotRingsModel.commits from 11 -/
theorem r_M_commits_11 {v0 : Nat} {v1 : Int32} {s0 : Int32} {q1 : Nat} {n1 : Nat} {h : sn_H} {Q : Option Value → sn_H → Prop}
    (k1 : hK h v0 = (0, 5, 16))
    (k2 : hR h v0 0 = some q1)
    (k3 : hK h q1 = (1, 0, n1))
    (B1 : s0 ≤ 0 → vp_in (nI 0) n1)
    (H2 : s0 ≤ 0 → wpE 115 50 [some (.ref v0), some (.int v1), none, some (.int (nI 0))] [] (setG h q1 (nI 0).toNatClampNeg ((hG h q1 (nI 0).toNatClampNeg) + nI 1)) (0, 0) Q)
    (B3 : ¬ s0 ≤ 0 → vp_in ((nI 2 + s0) - nI 1) n1)
    (H4 : ¬ s0 ≤ 0 → wpE 103 0 [some (.ref v0), some (.int v1), none] [] (setG h q1 ((nI 2 + s0) - nI 1).toNatClampNeg ((hG h q1 ((nI 2 + s0) - nI 1).toNatClampNeg) + nI 1)) (0, 0) (fun r hh => wpE 115 35 [none, none, some (.int s0), none] (r.toList ++ []) hh (0, 0) Q)) :
    wpE 115 11 [some (.ref v0), some (.int v1), none, none] [.int s0] h (0, 0) Q :=
  vc_s (ct := fun pc => Nat.beq pc 50 || Nat.beq pc 78 || Nat.beq pc 86 || Nat.beq pc 139) 1000 false (And.intro (Nat.le_of_ble_eq_true rfl) (And.intro (fun c1 => (And.intro k1 (Exists.intro q1 (And.intro k2 (And.intro rfl (And.intro rfl (Exists.intro 0 (Exists.intro n1 (And.intro k3 (And.intro (B1 c1) (Exists.intro n1 (And.intro k3 (And.intro (B1 c1) (And.intro (Nat.le_of_ble_eq_true rfl) (@wpE_w _ _ [some (.ref v0), some (.int v1), none, some (.int (nI 0))] _ _ _ _ _ (show LeL [some (.ref v0), some (.int v1), none, some (.int (nI 0))] [some (.ref v0), some (.int v1), some (.int s0), some (.int (nI 0))] from (And.intro rfl (And.intro rfl (And.intro rfl trivial)))) (H2 c1)))))))))))))))) (fun c2 => (And.intro k1 (Exists.intro q1 (And.intro k2 (And.intro rfl (And.intro rfl (Exists.intro 0 (Exists.intro n1 (And.intro k3 (And.intro (B3 c2) (Exists.intro n1 (And.intro k3 (And.intro (B3 c2) (And.intro k1 (And.intro (Nat.le_of_ble_eq_true rfl) (And.intro (Nat.le_of_ble_eq_true rfl) (And.intro (Nat.le_of_ble_eq_true rfl) (And.intro (Nat.le_of_ble_eq_true rfl) (wpE_m (fun _ _ HH => @wpE_w _ _ [none, none, some (.int s0), none] _ _ _ _ _ (show LeL [none, none, some (.int s0), none] [some (.ref v0), some (.int v1), some (.int s0), none] from (And.intro rfl trivial)) HH) (H4 c2))))))))))))))))))))))
/-- SnapshotRingsModel.commits from 50 -/
theorem r_M_commits_50 {v0 : Nat} {v1 : Int32} {v3 : Int32} {q1 : Nat} {n1 : Nat} {h : sn_H} {Q : Option Value → sn_H → Prop}
    (k1 : hK h v0 = (0, 5, 16))
    (k2 : hR h v0 0 = some q1)
    (k3 : hK h q1 = (1, 0, n1))
    (H1 : nI 15 ≤ v3 → wpE 115 86 [some (.ref v0), some (.int v1), none, some (.int (nI 0))] [] h (0, 0) Q)
    (B2 : ¬ nI 15 ≤ v3 → vp_in (nI 0) n1)
    (B3 : ¬ nI 15 ≤ v3 → vp_in ((nI 36 + (nI 40 * v1)) + v3) n1)
    (B4 : ¬ nI 15 ≤ v3 → vp_in ((nI 356 + (nI 15 * ((hG h q1 (nI 0).toNatClampNeg) - (hG h q1 (nI 0).toNatClampNeg) / nI 16 * nI 16))) + v3) n1)
    (H5 : ¬ nI 15 ≤ v3 → wpE 115 78 [some (.ref v0), some (.int v1), none, some (.int v3)] [] (setG h q1 ((nI 356 + (nI 15 * ((hG h q1 (nI 0).toNatClampNeg) - (hG h q1 (nI 0).toNatClampNeg) / nI 16 * nI 16))) + v3).toNatClampNeg (hG h q1 ((nI 36 + (nI 40 * v1)) + v3).toNatClampNeg)) (0, 0) Q) :
    wpE 115 50 [some (.ref v0), some (.int v1), none, some (.int v3)] [] h (0, 0) Q :=
  vc_s (ct := fun pc => Nat.beq pc 50 || Nat.beq pc 78 || Nat.beq pc 86 || Nat.beq pc 139) 1000 false (And.intro (fun c1 => (And.intro (Nat.le_of_ble_eq_true rfl) (H1 c1))) (fun c2 => (And.intro k1 (Exists.intro q1 (And.intro k2 (And.intro k1 (Exists.intro q1 (And.intro k2 (Exists.intro 0 (Exists.intro n1 (And.intro k3 (And.intro (B2 c2) (And.intro (Nat.le_of_ble_eq_true rfl) (And.intro (Nat.le_of_ble_eq_true rfl) (And.intro (Nat.le_of_ble_eq_true rfl) (And.intro (Nat.le_of_ble_eq_true rfl) (r_M_keptAt_0 (v0 := (hG h q1 (nI 0).toNatClampNeg)) (h := h) ((vc_s (ct := fun pc => Nat.beq pc 50 || Nat.beq pc 78 || Nat.beq pc 86 || Nat.beq pc 139) 1000 false (And.intro k1 (And.intro (Nat.le_of_ble_eq_true rfl) (And.intro (Nat.le_of_ble_eq_true rfl) (And.intro (Nat.le_of_ble_eq_true rfl) (And.intro (Nat.le_of_ble_eq_true rfl) (r_M_slotPart_0 (v0 := v0) (v1 := v1) (v2 := v3) (q1 := q1) (n1 := n1) (h := h) k1 k2 k3 ((B3 c2)) ((vc_s (ct := fun pc => Nat.beq pc 50 || Nat.beq pc 78 || Nat.beq pc 86 || Nat.beq pc 139) 1000 false (Exists.intro n1 (And.intro k3 (And.intro (B4 c2) (H5 c2)))))))))))))))))))))))))))))))
/-- SnapshotRingsModel.commits from 35 -/
theorem r_M_commits_35 {v2 : Int32} {h : sn_H} {Q : Option Value → sn_H → Prop}
    (H1 : Q (some (.int (-v2))) h) :
    wpE 115 35 [none, none, some (.int v2), none] [] h (0, 0) Q :=
  vc_s (ct := fun pc => Nat.beq pc 50 || Nat.beq pc 78 || Nat.beq pc 86 || Nat.beq pc 139) 1000 false H1
/-- SnapshotRingsModel.commits from 86 -/
theorem r_M_commits_86 {v0 : Nat} {v1 : Int32} {v3 : Int32} {q1 : Nat} {n1 : Nat} {h : sn_H} {Q : Option Value → sn_H → Prop}
    (k1 : hK h v0 = (0, 5, 16))
    (k2 : hR h v0 0 = some q1)
    (k3 : hK h q1 = (1, 0, n1))
    (H1 : nI 12 ≤ v3 → wpE 103 0 [some (.ref v0), some (.int v1), none] [] h (0, 0) (fun r hh => wpE 115 150 [some (.ref v0), none, none, none] (r.toList ++ []) hh (0, 0) Q))
    (B2 : ¬ nI 12 ≤ v3 → vp_in ((nI 36 + (nI 40 * v1)) + (nI 2)) n1)
    (H3 : ¬ nI 12 ≤ v3 → ¬ (((hG h q1 ((nI 36 + (nI 40 * v1)) + (nI 2)).toNatClampNeg) >>> (v3 &&& 31)) &&& nI 1) = nI 1 → wpE 115 139 [some (.ref v0), some (.int v1), none, some (.int v3)] [] h (0, 0) Q)
    (B4 : ¬ nI 12 ≤ v3 → (((hG h q1 ((nI 36 + (nI 40 * v1)) + (nI 2)).toNatClampNeg) >>> (v3 &&& 31)) &&& nI 1) = nI 1 → vp_in ((nI 36 + (nI 40 * v1)) + (nI 27 + v3)) n1)
    (B5 : ¬ nI 12 ≤ v3 → (((hG h q1 ((nI 36 + (nI 40 * v1)) + (nI 2)).toNatClampNeg) >>> (v3 &&& 31)) &&& nI 1) = nI 1 → vp_in (nI 12 + v3) n1)
    (B6 : ¬ nI 12 ≤ v3 → (((hG h q1 ((nI 36 + (nI 40 * v1)) + (nI 2)).toNatClampNeg) >>> (v3 &&& 31)) &&& nI 1) = nI 1 → vp_in (nI 0) n1)
    (B7 : ¬ nI 12 ≤ v3 → (((hG h q1 ((nI 36 + (nI 40 * v1)) + (nI 2)).toNatClampNeg) >>> (v3 &&& 31)) &&& nI 1) = nI 1 → vp_in (nI 24 + v3) n1)
    (H8 : ¬ nI 12 ≤ v3 → (((hG h q1 ((nI 36 + (nI 40 * v1)) + (nI 2)).toNatClampNeg) >>> (v3 &&& 31)) &&& nI 1) = nI 1 → wpE 115 139 [some (.ref v0), some (.int v1), none, some (.int v3)] [] (setG (setG h q1 (nI 12 + v3).toNatClampNeg (hG h q1 ((nI 36 + (nI 40 * v1)) + (nI 27 + v3)).toNatClampNeg)) q1 (nI 24 + v3).toNatClampNeg (hG (setG h q1 (nI 12 + v3).toNatClampNeg (hG h q1 ((nI 36 + (nI 40 * v1)) + (nI 27 + v3)).toNatClampNeg)) q1 (nI 0).toNatClampNeg)) (0, 0) Q) :
    wpE 115 86 [some (.ref v0), some (.int v1), none, some (.int v3)] [] h (0, 0) Q :=
  vc_s (ct := fun pc => Nat.beq pc 50 || Nat.beq pc 78 || Nat.beq pc 86 || Nat.beq pc 139) 1000 false (And.intro (fun c1 => (And.intro k1 (And.intro (Nat.le_of_ble_eq_true rfl) (And.intro (Nat.le_of_ble_eq_true rfl) (And.intro (Nat.le_of_ble_eq_true rfl) (And.intro (Nat.le_of_ble_eq_true rfl) (wpE_m (fun _ _ HH => @wpE_w _ _ [some (.ref v0), none, none, none] _ _ _ _ _ (show LeL [some (.ref v0), none, none, none] [some (.ref v0), some (.int v1), none, some (.int v3)] from (And.intro rfl trivial)) HH) (H1 c1)))))))) (fun c2 => (And.intro k1 (And.intro (Nat.le_of_ble_eq_true rfl) (And.intro (Nat.le_of_ble_eq_true rfl) (And.intro (Nat.le_of_ble_eq_true rfl) (And.intro (Nat.le_of_ble_eq_true rfl) (r_M_slotPart_0 (v0 := v0) (v1 := v1) (v2 := (nI 2)) (q1 := q1) (n1 := n1) (h := h) k1 k2 k3 ((B2 c2)) ((vc_s (ct := fun pc => Nat.beq pc 50 || Nat.beq pc 78 || Nat.beq pc 86 || Nat.beq pc 139) 1000 false (And.intro (fun c3 => (H3 c2 c3)) (fun c4 => (And.intro k1 (Exists.intro q1 (And.intro k2 (And.intro k1 (And.intro (Nat.le_of_ble_eq_true rfl) (And.intro (Nat.le_of_ble_eq_true rfl) (And.intro (Nat.le_of_ble_eq_true rfl) (And.intro (Nat.le_of_ble_eq_true rfl) (r_M_slotPart_0 (v0 := v0) (v1 := v1) (v2 := (nI 27 + v3)) (q1 := q1) (n1 := n1) (h := h) k1 k2 k3 ((B4 c2 c4)) ((vc_s (ct := fun pc => Nat.beq pc 50 || Nat.beq pc 78 || Nat.beq pc 86 || Nat.beq pc 139) 1000 false (Exists.intro n1 (And.intro k3 (And.intro (B5 c2 c4) (And.intro k1 (Exists.intro q1 (And.intro k2 (And.intro k1 (Exists.intro q1 (And.intro k2 (Exists.intro 0 (Exists.intro n1 (And.intro k3 (And.intro (B6 c2 c4) (Exists.intro n1 (And.intro k3 (And.intro (B7 c2 c4) (H8 c2 c4))))))))))))))))))))))))))))))))))))))))
/-- SnapshotRingsModel.commits from 78 -/
theorem r_M_commits_78 {v0 : Nat} {v1 : Int32} {v3 : Int32} {h : sn_H} {Q : Option Value → sn_H → Prop}
    (H1 : wpE 115 50 [some (.ref v0), some (.int v1), none, some (.int (v3 + nI 1))] [] h (0, 0) Q) :
    wpE 115 78 [some (.ref v0), some (.int v1), none, some (.int v3)] [] h (0, 0) Q :=
  vc_s (ct := fun pc => Nat.beq pc 50 || Nat.beq pc 78 || Nat.beq pc 86 || Nat.beq pc 139) 1000 false (And.intro (Nat.le_of_ble_eq_true rfl) H1)
/-- SnapshotRingsModel.commits from 150 -/
theorem r_M_commits_150 {v0 : Nat} {q1 : Nat} {n1 : Nat} {h : sn_H} {Q : Option Value → sn_H → Prop}
    (k1 : hK h v0 = (0, 5, 16))
    (k2 : hR h v0 0 = some q1)
    (k3 : hK h q1 = (1, 0, n1))
    (B1 : vp_in (nI 0) n1)
    (H2 : Q (some (.int (hG h q1 (nI 0).toNatClampNeg))) h) :
    wpE 115 150 [some (.ref v0), none, none, none] [] h (0, 0) Q :=
  vc_s (ct := fun pc => Nat.beq pc 50 || Nat.beq pc 78 || Nat.beq pc 86 || Nat.beq pc 139) 1000 false (And.intro k1 (Exists.intro q1 (And.intro k2 (Exists.intro 0 (Exists.intro n1 (And.intro k3 (And.intro B1 H2)))))))
/-- SnapshotRingsModel.commits from 139 -/
theorem r_M_commits_139 {v0 : Nat} {v1 : Int32} {v3 : Int32} {h : sn_H} {Q : Option Value → sn_H → Prop}
    (H1 : wpE 115 86 [some (.ref v0), some (.int v1), none, some (.int (v3 + nI 1))] [] h (0, 0) Q) :
    wpE 115 139 [some (.ref v0), some (.int v1), none, some (.int v3)] [] h (0, 0) Q :=
  vc_s (ct := fun pc => Nat.beq pc 50 || Nat.beq pc 78 || Nat.beq pc 86 || Nat.beq pc 139) 1000 false (And.intro (Nat.le_of_ble_eq_true rfl) H1)
/-- SnapshotRingsModel.commit from 0 -/
theorem r_M_commit_0 {v0 : Nat} {v1 : Int32} {q1 : Nat} {n1 : Nat} {h : sn_H} {Q : Option Value → sn_H → Prop}
    (k1 : hK h v0 = (0, 5, 16))
    (k2 : hR h v0 0 = some q1)
    (k3 : hK h q1 = (1, 0, n1))
    (H1 : v1 < (nI 0) → Q (some (.int (-(nI 20001)))) h)
    (H2 : ¬ v1 < (nI 0) → (nI 7) < v1 → Q (some (.int (-(nI 20001)))) h)
    (B3 : ¬ v1 < (nI 0) → ¬ (nI 7) < v1 → vp_in ((nI 36 + (nI 40 * v1)) + (nI 39)) n1)
    (H4 : ¬ v1 < (nI 0) → ¬ (nI 7) < v1 → ¬ (hG h q1 ((nI 36 + (nI 40 * v1)) + (nI 39)).toNatClampNeg) = nI 1 → Q (some (.int (-(nI 20001)))) h)
    (H5 : ¬ v1 < (nI 0) → ¬ (nI 7) < v1 → (hG h q1 ((nI 36 + (nI 40 * v1)) + (nI 39)).toNatClampNeg) = nI 1 → wpE 100 0 [some (.ref v0), none] [] h (0, 0) (fun r hh => wpE 113 16 [some (.ref v0), some (.int v1), none] (r.toList ++ []) hh (0, 0) Q)) :
    wpE 113 0 [some (.ref v0), some (.int v1), none] [] h (0, 0) Q :=
  vc_s (ct := fun _ => false) 1000 false (And.intro k1 (And.intro (Nat.le_of_ble_eq_true rfl) (And.intro (Nat.le_of_ble_eq_true rfl) (And.intro (Nat.le_of_ble_eq_true rfl) (And.intro (Nat.le_of_ble_eq_true rfl) (r_M_whyNotOpen_0 (v0 := v0) (v1 := v1) (q1 := q1) (n1 := n1) (h := h) k1 k2 k3 (fun c1 => (vc_s (ct := fun _ => false) 1000 false (And.intro (Nat.le_of_ble_eq_true rfl) (And.intro (fun c2 => absurd c2 (by decide)) (fun c2 => (H1 c1)))))) (fun c3 c4 => (vc_s (ct := fun _ => false) 1000 false (And.intro (Nat.le_of_ble_eq_true rfl) (And.intro (fun c5 => absurd c5 (by decide)) (fun c5 => (H2 c3 c4)))))) (fun c6 c7 => (B3 c6 c7)) (fun c8 c9 c10 => (vc_s (ct := fun _ => false) 1000 false (And.intro (Nat.le_of_ble_eq_true rfl) (And.intro (fun c11 => absurd c11 (by decide)) (fun c11 => (H4 c8 c9 c10)))))) (fun c12 c13 c14 => (vc_s (ct := fun _ => false) 1000 false (And.intro (Nat.le_of_ble_eq_true rfl) (And.intro (fun c15 => (And.intro k1 (And.intro (Nat.le_of_ble_eq_true rfl) (And.intro (Nat.le_of_ble_eq_true rfl) (And.intro (Nat.le_of_ble_eq_true rfl) (And.intro (Nat.le_of_ble_eq_true rfl) (wpE_m (fun _ _ HH => @wpE_w _ _ [some (.ref v0), some (.int v1), none] _ _ _ _ _ (show LeL [some (.ref v0), some (.int v1), none] [some (.ref v0), some (.int v1), some (.int (nI 0))] from (And.intro rfl (And.intro rfl trivial))) HH) (H5 c12 c13 c14)))))))) (fun c15 => absurd c15 (by decide))))))))))))
/-- SnapshotRingsModel.commit from 16 -/
theorem r_M_commit_16 {v0 : Nat} {v1 : Int32} {h : sn_H} {Q : Option Value → sn_H → Prop}
    (k1 : hK h v0 = (0, 5, 16))
    (H1 : wpE 115 0 [some (.ref v0), some (.int v1), none, none] [] h (0, 0) (fun r hh => wpE 113 21 [none, none, none] (r.toList ++ []) hh (0, 0) Q)) :
    wpE 113 16 [some (.ref v0), some (.int v1), none] [] h (0, 0) Q :=
  vc_s (ct := fun _ => false) 1000 false (And.intro k1 (And.intro (Nat.le_of_ble_eq_true rfl) (And.intro (Nat.le_of_ble_eq_true rfl) (And.intro (Nat.le_of_ble_eq_true rfl) (And.intro (Nat.le_of_ble_eq_true rfl) (wpE_m (fun _ _ HH => @wpE_w _ _ [none, none, none] _ _ _ _ _ (show LeL [none, none, none] [some (.ref v0), some (.int v1), none] from trivial) HH) H1))))))
/-- SnapshotRingsModel.commit from 21 -/
theorem r_M_commit_21 {s0 : Int32} {h : sn_H} {Q : Option Value → sn_H → Prop}
    (H1 : Q (some (.int s0)) h) :
    wpE 113 21 [none, none, none] [.int s0] h (0, 0) Q :=
  vc_s (ct := fun _ => false) 1000 false H1
/-- SnapshotRingsModel.aborts from 0 -/
theorem r_M_aborts_0 {v0 : Nat} {v1 : Int32} {q1 : Nat} {n1 : Nat} {h : sn_H} {Q : Option Value → sn_H → Prop}
    (k1 : hK h v0 = (0, 5, 16))
    (k2 : hR h v0 0 = some q1)
    (k3 : hK h q1 = (1, 0, n1))
    (B1 : vp_in ((nI 36 + (nI 40 * v1)) + (nI 2)) n1)
    (H2 : wpE 112 0 [some (.int (hG h q1 ((nI 36 + (nI 40 * v1)) + (nI 2)).toNatClampNeg)), none, none] [] h (0, 0) (fun r hh => wpE 131 9 [some (.ref v0), some (.int v1), none] (r.toList ++ []) hh (0, 0) Q)) :
    wpE 131 0 [some (.ref v0), some (.int v1), none] [] h (0, 0) Q :=
  vc_s (ct := fun _ => false) 1000 false (And.intro k1 (And.intro (Nat.le_of_ble_eq_true rfl) (And.intro (Nat.le_of_ble_eq_true rfl) (And.intro (Nat.le_of_ble_eq_true rfl) (And.intro (Nat.le_of_ble_eq_true rfl) (r_M_slotPart_0 (v0 := v0) (v1 := v1) (v2 := (nI 2)) (q1 := q1) (n1 := n1) (h := h) k1 k2 k3 (B1) ((vc_s (ct := fun _ => false) 1000 false (And.intro (Nat.le_of_ble_eq_true rfl) (And.intro (Nat.le_of_ble_eq_true rfl) (And.intro (Nat.le_of_ble_eq_true rfl) (And.intro (Nat.le_of_ble_eq_true rfl) H2))))))))))))
/-- SnapshotRingsModel.aborts from 9 -/
theorem r_M_aborts_9 {v0 : Nat} {v1 : Int32} {s0 : Int32} {q1 : Nat} {n1 : Nat} {h : sn_H} {Q : Option Value → sn_H → Prop}
    (k1 : hK h v0 = (0, 5, 16))
    (k2 : hR h v0 0 = some q1)
    (k3 : hK h q1 = (1, 0, n1))
    (B1 : vp_in (nI 5) n1)
    (H2 : wpE 103 0 [some (.ref v0), some (.int v1), none] [] (setG h q1 (nI 5).toNatClampNeg ((hG h q1 (nI 5).toNatClampNeg) + nI 1)) (0, 0) (fun r hh => wpE 131 25 [none, none, some (.int s0)] (r.toList ++ []) hh (0, 0) Q)) :
    wpE 131 9 [some (.ref v0), some (.int v1), none] [.int s0] h (0, 0) Q :=
  vc_s (ct := fun _ => false) 1000 false (And.intro (Nat.le_of_ble_eq_true rfl) (And.intro k1 (Exists.intro q1 (And.intro k2 (And.intro rfl (And.intro rfl (Exists.intro 0 (Exists.intro n1 (And.intro k3 (And.intro B1 (Exists.intro n1 (And.intro k3 (And.intro B1 (And.intro k1 (And.intro (Nat.le_of_ble_eq_true rfl) (And.intro (Nat.le_of_ble_eq_true rfl) (And.intro (Nat.le_of_ble_eq_true rfl) (And.intro (Nat.le_of_ble_eq_true rfl) (wpE_m (fun _ _ HH => @wpE_w _ _ [none, none, some (.int s0)] _ _ _ _ _ (show LeL [none, none, some (.int s0)] [some (.ref v0), some (.int v1), some (.int s0)] from (And.intro rfl trivial)) HH) H2)))))))))))))))))))
/-- SnapshotRingsModel.aborts from 25 -/
theorem r_M_aborts_25 {v2 : Int32} {h : sn_H} {Q : Option Value → sn_H → Prop}
    (H1 : Q (some (.int v2)) h) :
    wpE 131 25 [none, none, some (.int v2)] [] h (0, 0) Q :=
  vc_s (ct := fun _ => false) 1000 false H1
/-- SnapshotRingsModel.abort from 0 -/
theorem r_M_abort_0 {v0 : Nat} {v1 : Int32} {q1 : Nat} {n1 : Nat} {h : sn_H} {Q : Option Value → sn_H → Prop}
    (k1 : hK h v0 = (0, 5, 16))
    (k2 : hR h v0 0 = some q1)
    (k3 : hK h q1 = (1, 0, n1))
    (H1 : v1 < (nI 0) → Q (some (.int (-(nI 20001)))) h)
    (H2 : ¬ v1 < (nI 0) → (nI 7) < v1 → Q (some (.int (-(nI 20001)))) h)
    (B3 : ¬ v1 < (nI 0) → ¬ (nI 7) < v1 → vp_in ((nI 36 + (nI 40 * v1)) + (nI 39)) n1)
    (H4 : ¬ v1 < (nI 0) → ¬ (nI 7) < v1 → ¬ (hG h q1 ((nI 36 + (nI 40 * v1)) + (nI 39)).toNatClampNeg) = nI 1 → Q (some (.int (-(nI 20001)))) h)
    (H5 : ¬ v1 < (nI 0) → ¬ (nI 7) < v1 → (hG h q1 ((nI 36 + (nI 40 * v1)) + (nI 39)).toNatClampNeg) = nI 1 → wpE 100 0 [some (.ref v0), none] [] h (0, 0) (fun r hh => wpE 130 16 [some (.ref v0), some (.int v1), none] (r.toList ++ []) hh (0, 0) Q)) :
    wpE 130 0 [some (.ref v0), some (.int v1), none] [] h (0, 0) Q :=
  vc_s (ct := fun _ => false) 1000 false (And.intro k1 (And.intro (Nat.le_of_ble_eq_true rfl) (And.intro (Nat.le_of_ble_eq_true rfl) (And.intro (Nat.le_of_ble_eq_true rfl) (And.intro (Nat.le_of_ble_eq_true rfl) (r_M_whyNotOpen_0 (v0 := v0) (v1 := v1) (q1 := q1) (n1 := n1) (h := h) k1 k2 k3 (fun c1 => (vc_s (ct := fun _ => false) 1000 false (And.intro (Nat.le_of_ble_eq_true rfl) (And.intro (fun c2 => absurd c2 (by decide)) (fun c2 => (H1 c1)))))) (fun c3 c4 => (vc_s (ct := fun _ => false) 1000 false (And.intro (Nat.le_of_ble_eq_true rfl) (And.intro (fun c5 => absurd c5 (by decide)) (fun c5 => (H2 c3 c4)))))) (fun c6 c7 => (B3 c6 c7)) (fun c8 c9 c10 => (vc_s (ct := fun _ => false) 1000 false (And.intro (Nat.le_of_ble_eq_true rfl) (And.intro (fun c11 => absurd c11 (by decide)) (fun c11 => (H4 c8 c9 c10)))))) (fun c12 c13 c14 => (vc_s (ct := fun _ => false) 1000 false (And.intro (Nat.le_of_ble_eq_true rfl) (And.intro (fun c15 => (And.intro k1 (And.intro (Nat.le_of_ble_eq_true rfl) (And.intro (Nat.le_of_ble_eq_true rfl) (And.intro (Nat.le_of_ble_eq_true rfl) (And.intro (Nat.le_of_ble_eq_true rfl) (wpE_m (fun _ _ HH => @wpE_w _ _ [some (.ref v0), some (.int v1), none] _ _ _ _ _ (show LeL [some (.ref v0), some (.int v1), none] [some (.ref v0), some (.int v1), some (.int (nI 0))] from (And.intro rfl (And.intro rfl trivial))) HH) (H5 c12 c13 c14)))))))) (fun c15 => absurd c15 (by decide))))))))))))
/-- SnapshotRingsModel.abort from 16 -/
theorem r_M_abort_16 {v0 : Nat} {v1 : Int32} {h : sn_H} {Q : Option Value → sn_H → Prop}
    (k1 : hK h v0 = (0, 5, 16))
    (H1 : wpE 131 0 [some (.ref v0), some (.int v1), none] [] h (0, 0) (fun r hh => wpE 130 21 [none, none, none] (r.toList ++ []) hh (0, 0) Q)) :
    wpE 130 16 [some (.ref v0), some (.int v1), none] [] h (0, 0) Q :=
  vc_s (ct := fun _ => false) 1000 false (And.intro k1 (And.intro (Nat.le_of_ble_eq_true rfl) (And.intro (Nat.le_of_ble_eq_true rfl) (And.intro (Nat.le_of_ble_eq_true rfl) (And.intro (Nat.le_of_ble_eq_true rfl) (wpE_m (fun _ _ HH => @wpE_w _ _ [none, none, none] _ _ _ _ _ (show LeL [none, none, none] [some (.ref v0), some (.int v1), none] from trivial) HH) H1))))))
/-- SnapshotRingsModel.abort from 21 -/
theorem r_M_abort_21 {s0 : Int32} {h : sn_H} {Q : Option Value → sn_H → Prop}
    (H1 : Q (some (.int s0)) h) :
    wpE 130 21 [none, none, none] [.int s0] h (0, 0) Q :=
  vc_s (ct := fun _ => false) 1000 false H1
/-- SnapshotRingsModel.setPolicy from 0 -/
theorem r_M_setPolicy_0 {v0 : Nat} {v1 : Int32} {h : sn_H} {Q : Option Value → sn_H → Prop}
    (k1 : hK h v0 = (0, 5, 16))
    (H1 : v1 < (nI 0) → Q (some (.int (-(nI 20002)))) h)
    (H2 : ¬ v1 < (nI 0) → (nI 2) < v1 → Q (some (.int (-(nI 20002)))) h)
    (H3 : ¬ v1 < (nI 0) → ¬ (nI 2) < v1 → wpE 100 0 [some (.ref v0), none] [] h (0, 0) (fun r hh => wpE 132 17 [some (.ref v0), some (.int v1), none] (r.toList ++ []) hh (0, 0) Q)) :
    wpE 132 0 [some (.ref v0), some (.int v1), none] [] h (0, 0) Q :=
  vc_s (ct := fun _ => false) 1000 false (And.intro (Nat.le_of_ble_eq_true rfl) (And.intro (Nat.le_of_ble_eq_true rfl) (And.intro (Nat.le_of_ble_eq_true rfl) (And.intro (Nat.le_of_ble_eq_true rfl) (r_M_within_0 (v0 := v1) (v1 := (nI 0)) (v2 := (nI 2)) (h := h) (fun c1 => (vc_s (ct := fun _ => false) 1000 false (And.intro (fun c2 => absurd c2 (by decide)) (fun c2 => (H1 c1))))) (fun c3 c4 => (vc_s (ct := fun _ => false) 1000 false (And.intro (fun c5 => absurd c5 (by decide)) (fun c5 => (H2 c3 c4))))) (fun c6 c7 => (vc_s (ct := fun _ => false) 1000 false (And.intro (fun c8 => (And.intro k1 (And.intro (Nat.le_of_ble_eq_true rfl) (And.intro (Nat.le_of_ble_eq_true rfl) (And.intro (Nat.le_of_ble_eq_true rfl) (And.intro (Nat.le_of_ble_eq_true rfl) (H3 c6 c7))))))) (fun c8 => absurd c8 (by decide))))))))))
/-- SnapshotRingsModel.setPolicy from 17 -/
theorem r_M_setPolicy_17 {v0 : Nat} {v1 : Int32} {q1 : Nat} {n1 : Nat} {h : sn_H} {Q : Option Value → sn_H → Prop}
    (k1 : hK h v0 = (0, 5, 16))
    (k2 : hR h v0 0 = some q1)
    (k3 : hK h q1 = (1, 0, n1))
    (B1 : vp_in (nI 1) n1)
    (H2 : Q (some (.int (hG h q1 (nI 1).toNatClampNeg))) (setG h q1 (nI 1).toNatClampNeg v1)) :
    wpE 132 17 [some (.ref v0), some (.int v1), none] [] h (0, 0) Q :=
  vc_s (ct := fun _ => false) 1000 false (And.intro k1 (Exists.intro q1 (And.intro k2 (Exists.intro 0 (Exists.intro n1 (And.intro k3 (And.intro B1 (And.intro (Nat.le_of_ble_eq_true rfl) (And.intro k1 (Exists.intro q1 (And.intro k2 (Exists.intro n1 (And.intro k3 (And.intro B1 H2))))))))))))))
/-- SnapshotRingsModel.isConstraint from 0 -/
theorem r_M_isConstraint_0 {v0 : Int32} {h : sn_H} {Q : Option Value → sn_H → Prop}
    (H1 : v0 < (nI 0) → Q (some (.int (nI 0))) h)
    (H2 : ¬ v0 < (nI 0) → (nI 2) < v0 → Q (some (.int (nI 0))) h)
    (H3 : ¬ v0 < (nI 0) → ¬ (nI 2) < v0 → Q (some (.int (nI 1))) h) :
    wpE 134 0 [some (.int v0)] [] h (0, 0) Q :=
  vc_s (ct := fun _ => false) 1000 false (And.intro (Nat.le_of_ble_eq_true rfl) (And.intro (Nat.le_of_ble_eq_true rfl) (And.intro (Nat.le_of_ble_eq_true rfl) (And.intro (Nat.le_of_ble_eq_true rfl) (r_M_within_0 (v0 := v0) (v1 := (nI 0)) (v2 := (nI 2)) (h := h) (fun c1 => (vc_s (ct := fun _ => false) 1000 false (And.intro rfl (H1 c1)))) (fun c2 c3 => (vc_s (ct := fun _ => false) 1000 false (And.intro rfl (H2 c2 c3)))) (fun c4 c5 => (vc_s (ct := fun _ => false) 1000 false (And.intro rfl (H3 c4 c5)))))))))
/-- SnapshotRingsModel.setConstraint from 0 -/
theorem r_M_setConstraint_0 {v0 : Nat} {v1 : Int32} {v2 : Int32} {v3 : Int32} {h : sn_H} {Q : Option Value → sn_H → Prop}
    (k1 : hK h v0 = (0, 5, 16))
    (H1 : v1 < (nI 0) → Q (some (.int (-(nI 20001)))) h)
    (H2 : ¬ v1 < (nI 0) → (nI 2) < v1 → Q (some (.int (-(nI 20001)))) h)
    (H3 : ¬ v1 < (nI 0) → ¬ (nI 2) < v1 → v2 < (nI 0) → Q (some (.int (-(nI 20002)))) h)
    (H4 : ¬ v1 < (nI 0) → ¬ (nI 2) < v1 → ¬ v2 < (nI 0) → (nI 4095) < v2 → Q (some (.int (-(nI 20002)))) h)
    (H5 : ¬ v1 < (nI 0) → ¬ (nI 2) < v1 → ¬ v2 < (nI 0) → ¬ (nI 4095) < v2 → v3 < (-(nI 9999)) → Q (some (.int (-(nI 20002)))) h)
    (H6 : ¬ v1 < (nI 0) → ¬ (nI 2) < v1 → ¬ v2 < (nI 0) → ¬ (nI 4095) < v2 → ¬ v3 < (-(nI 9999)) → (nI 9999) < v3 → Q (some (.int (-(nI 20002)))) h)
    (H7 : ¬ v1 < (nI 0) → ¬ (nI 2) < v1 → ¬ v2 < (nI 0) → ¬ (nI 4095) < v2 → ¬ v3 < (-(nI 9999)) → ¬ (nI 9999) < v3 → wpE 100 0 [some (.ref v0), none] [] h (0, 0) (fun r hh => wpE 133 43 [some (.ref v0), some (.int v1), some (.int v2), some (.int v3), none] (r.toList ++ []) hh (0, 0) Q)) :
    wpE 133 0 [some (.ref v0), some (.int v1), some (.int v2), some (.int v3), none] [] h (0, 0) Q :=
  vc_s (ct := fun _ => false) 1000 false (And.intro (Nat.le_of_ble_eq_true rfl) (And.intro (Nat.le_of_ble_eq_true rfl) (And.intro (Nat.le_of_ble_eq_true rfl) (And.intro (Nat.le_of_ble_eq_true rfl) (r_M_isConstraint_0 (v0 := v1) (h := h) (fun c1 => (vc_s (ct := fun _ => false) 1000 false (And.intro (fun c2 => absurd c2 (by decide)) (fun c2 => (H1 c1))))) (fun c3 c4 => (vc_s (ct := fun _ => false) 1000 false (And.intro (fun c5 => absurd c5 (by decide)) (fun c5 => (H2 c3 c4))))) (fun c6 c7 => (vc_s (ct := fun _ => false) 1000 false (And.intro (fun c8 => (And.intro (Nat.le_of_ble_eq_true rfl) (And.intro (Nat.le_of_ble_eq_true rfl) (And.intro (Nat.le_of_ble_eq_true rfl) (And.intro (Nat.le_of_ble_eq_true rfl) (r_M_within_0 (v0 := v2) (v1 := (nI 0)) (v2 := (nI 4095)) (h := h) (fun c9 => (vc_s (ct := fun _ => false) 1000 false (And.intro (fun c10 => (H3 c6 c7 c9)) (fun c10 => absurd c10 (by decide))))) (fun c11 c12 => (vc_s (ct := fun _ => false) 1000 false (And.intro (fun c13 => (H4 c6 c7 c11 c12)) (fun c13 => absurd c13 (by decide))))) (fun c14 c15 => (vc_s (ct := fun _ => false) 1000 false (And.intro (fun c16 => absurd c16 (by decide)) (fun c16 => (And.intro (Nat.le_of_ble_eq_true rfl) (And.intro (Nat.le_of_ble_eq_true rfl) (And.intro (Nat.le_of_ble_eq_true rfl) (And.intro (Nat.le_of_ble_eq_true rfl) (r_M_within_0 (v0 := v3) (v1 := (-(nI 9999))) (v2 := (nI 9999)) (h := h) (fun c17 => (vc_s (ct := fun _ => false) 1000 false (And.intro (fun c18 => absurd c18 (by decide)) (fun c18 => (H5 c6 c7 c14 c15 c17))))) (fun c19 c20 => (vc_s (ct := fun _ => false) 1000 false (And.intro (fun c21 => absurd c21 (by decide)) (fun c21 => (H6 c6 c7 c14 c15 c19 c20))))) (fun c22 c23 => (vc_s (ct := fun _ => false) 1000 false (And.intro (fun c24 => (And.intro k1 (And.intro (Nat.le_of_ble_eq_true rfl) (And.intro (Nat.le_of_ble_eq_true rfl) (And.intro (Nat.le_of_ble_eq_true rfl) (And.intro (Nat.le_of_ble_eq_true rfl) (H7 c6 c7 c14 c15 c22 c23))))))) (fun c24 => absurd c24 (by decide)))))))))))))))))))) (fun c8 => absurd c8 (by decide))))))))))
/-- SnapshotRingsModel.setConstraint from 43 -/
theorem r_M_setConstraint_43 {v0 : Nat} {v1 : Int32} {v2 : Int32} {v3 : Int32} {q1 : Nat} {n1 : Nat} {h : sn_H} {Q : Option Value → sn_H → Prop}
    (k1 : hK h v0 = (0, 5, 16))
    (k2 : hR h v0 0 = some q1)
    (k3 : hK h q1 = (1, 0, n1))
    (B1 : vp_in ((nI 6 + (nI 2 * v1)) + nI 1) n1)
    (B2 : vp_in (nI 6 + (nI 2 * v1)) n1)
    (H3 : Q (some (.int (hG h q1 ((nI 6 + (nI 2 * v1)) + nI 1).toNatClampNeg))) (setG (setG h q1 (nI 6 + (nI 2 * v1)).toNatClampNeg v2) q1 ((nI 6 + (nI 2 * v1)) + nI 1).toNatClampNeg v3)) :
    wpE 133 43 [some (.ref v0), some (.int v1), some (.int v2), some (.int v3), none] [] h (0, 0) Q :=
  vc_s (ct := fun _ => false) 1000 false (And.intro k1 (Exists.intro q1 (And.intro k2 (Exists.intro 0 (Exists.intro n1 (And.intro k3 (And.intro B1 (And.intro (Nat.le_of_ble_eq_true rfl) (And.intro k1 (Exists.intro q1 (And.intro k2 (Exists.intro n1 (And.intro k3 (And.intro B2 (And.intro k1 (Exists.intro q1 (And.intro k2 (Exists.intro n1 (And.intro k3 (And.intro B1 H3))))))))))))))))))))
/-- SnapshotRingsModel.openMany from 0 -/
theorem r_M_openMany_0 {v0 : Nat} {h : sn_H} {Q : Option Value → sn_H → Prop}
    (H1 : wpE 137 4 [some (.ref v0), some (.int (nI 0)), some (.int (nI 0))] [] h (0, 0) Q) :
    wpE 137 0 [some (.ref v0), none, none] [] h (0, 0) Q :=
  vc_s (ct := fun pc => Nat.beq pc 4) 1000 false (And.intro (Nat.le_of_ble_eq_true rfl) (And.intro (Nat.le_of_ble_eq_true rfl) H1))
/-- SnapshotRingsModel.openMany from 4 -/
theorem r_M_openMany_4 {v0 : Nat} {v1 : Int32} {v2 : Int32} {q1 : Nat} {n1 : Nat} {h : sn_H} {Q : Option Value → sn_H → Prop}
    (k1 : hK h v0 = (0, 5, 16))
    (k2 : hR h v0 0 = some q1)
    (k3 : hK h q1 = (1, 0, n1))
    (H1 : nI 8 ≤ v2 → Q (some (.int v1)) h)
    (H2 : ¬ nI 8 ≤ v2 → v2 < (nI 0) → wpE 137 4 [some (.ref v0), some (.int (v1 + nI 0)), some (.int (v2 + nI 1))] [] h (0, 0) Q)
    (H3 : ¬ nI 8 ≤ v2 → ¬ v2 < (nI 0) → (nI 7) < v2 → wpE 137 4 [some (.ref v0), some (.int (v1 + nI 0)), some (.int (v2 + nI 1))] [] h (0, 0) Q)
    (B4 : ¬ nI 8 ≤ v2 → ¬ v2 < (nI 0) → ¬ (nI 7) < v2 → vp_in ((nI 36 + (nI 40 * v2)) + (nI 39)) n1)
    (H5 : ¬ nI 8 ≤ v2 → ¬ v2 < (nI 0) → ¬ (nI 7) < v2 → ¬ (hG h q1 ((nI 36 + (nI 40 * v2)) + (nI 39)).toNatClampNeg) = nI 1 → wpE 137 4 [some (.ref v0), some (.int (v1 + nI 0)), some (.int (v2 + nI 1))] [] h (0, 0) Q)
    (H6 : ¬ nI 8 ≤ v2 → ¬ v2 < (nI 0) → ¬ (nI 7) < v2 → (hG h q1 ((nI 36 + (nI 40 * v2)) + (nI 39)).toNatClampNeg) = nI 1 → wpE 137 4 [some (.ref v0), some (.int (v1 + nI 1)), some (.int (v2 + nI 1))] [] h (0, 0) Q) :
    wpE 137 4 [some (.ref v0), some (.int v1), some (.int v2)] [] h (0, 0) Q :=
  vc_s (ct := fun pc => Nat.beq pc 4) 1000 false (And.intro (fun c1 => (H1 c1)) (fun c2 => (And.intro k1 (And.intro (Nat.le_of_ble_eq_true rfl) (And.intro (Nat.le_of_ble_eq_true rfl) (And.intro (Nat.le_of_ble_eq_true rfl) (And.intro (Nat.le_of_ble_eq_true rfl) (r_M_isOpen_0 (v0 := v0) (v1 := v2) (q1 := q1) (n1 := n1) (h := h) k1 k2 k3 (fun c3 => (vc_s (ct := fun pc => Nat.beq pc 4) 1000 false (And.intro (fun c4 => (And.intro (Nat.le_of_ble_eq_true rfl) (And.intro (Nat.le_of_ble_eq_true rfl) (H2 c2 c3)))) (fun c4 => absurd c4 (by decide))))) (fun c5 c6 => (vc_s (ct := fun pc => Nat.beq pc 4) 1000 false (And.intro (fun c7 => (And.intro (Nat.le_of_ble_eq_true rfl) (And.intro (Nat.le_of_ble_eq_true rfl) (H3 c2 c5 c6)))) (fun c7 => absurd c7 (by decide))))) (fun c8 c9 => (B4 c2 c8 c9)) (fun c10 c11 c12 => (vc_s (ct := fun pc => Nat.beq pc 4) 1000 false (And.intro (fun c13 => (And.intro (Nat.le_of_ble_eq_true rfl) (And.intro (Nat.le_of_ble_eq_true rfl) (H5 c2 c10 c11 c12)))) (fun c13 => absurd c13 (by decide))))) (fun c14 c15 c16 => (vc_s (ct := fun pc => Nat.beq pc 4) 1000 false (And.intro (fun c17 => absurd c17 (by decide)) (fun c17 => (And.intro (Nat.le_of_ble_eq_true rfl) (And.intro (Nat.le_of_ble_eq_true rfl) (H6 c2 c14 c15 c16)))))))))))))))
/-- SnapshotRingsModel.countOf from 0 -/
theorem r_M_countOf_0 {v0 : Nat} {v1 : Int32} {q1 : Nat} {n1 : Nat} {h : sn_H} {Q : Option Value → sn_H → Prop}
    (k1 : hK h v0 = (0, 5, 16))
    (k2 : hR h v0 0 = some q1)
    (k3 : hK h q1 = (1, 0, n1))
    (B1 : v1.toInt = 0 → vp_in (nI 0) n1)
    (H2 : v1.toInt = 0 → Q (some (.int (hG h q1 (nI 0).toNatClampNeg))) h)
    (H3 : v1.toInt = 1 → wpE 137 0 [some (.ref v0), none, none] [] h (0, 0) (fun r hh => wpE 136 43 [none, none] (r.toList ++ []) hh (0, 0) Q))
    (B4 : v1.toInt = 2 → vp_in (nI 1) n1)
    (H5 : v1.toInt = 2 → Q (some (.int (hG h q1 (nI 1).toNatClampNeg))) h)
    (H6 : v1.toInt = 3 → wpE 121 0 [some (.ref v0)] [] h (0, 0) (fun r hh => wpE 136 55 [none, none] (r.toList ++ []) hh (0, 0) Q))
    (B7 : (v1.toInt < 0 ∨ 3 < v1.toInt) → vp_in ((nI 2 + v1) - nI 4) n1)
    (H8 : (v1.toInt < 0 ∨ 3 < v1.toInt) → Q (some (.int (hG h q1 ((nI 2 + v1) - nI 4).toNatClampNeg))) h) :
    wpE 136 0 [some (.ref v0), some (.int v1)] [] h (0, 0) Q :=
  vc_s (ct := fun _ => false) 1000 false (And.intro (And.intro (fun c1 => (And.intro k1 (Exists.intro q1 (And.intro k2 (Exists.intro 0 (Exists.intro n1 (And.intro k3 (And.intro (B1 c1) (H2 c1))))))))) (And.intro (fun c2 => (And.intro k1 (And.intro (Nat.le_of_ble_eq_true rfl) (And.intro (Nat.le_of_ble_eq_true rfl) (And.intro (Nat.le_of_ble_eq_true rfl) (And.intro (Nat.le_of_ble_eq_true rfl) (wpE_m (fun _ _ HH => @wpE_w _ _ [none, none] _ _ _ _ _ (show LeL [none, none] [some (.ref v0), some (.int v1)] from trivial) HH) (H3 c2)))))))) (And.intro (fun c3 => (And.intro k1 (Exists.intro q1 (And.intro k2 (Exists.intro 0 (Exists.intro n1 (And.intro k3 (And.intro (B4 c3) (H5 c3))))))))) (And.intro (fun c4 => (And.intro k1 (And.intro (Nat.le_of_ble_eq_true rfl) (And.intro (Nat.le_of_ble_eq_true rfl) (And.intro (Nat.le_of_ble_eq_true rfl) (And.intro (Nat.le_of_ble_eq_true rfl) (wpE_m (fun _ _ HH => @wpE_w _ _ [none, none] _ _ _ _ _ (show LeL [none, none] [some (.ref v0), some (.int v1)] from trivial) HH) (H6 c4)))))))) True.intro)))) (fun c5 => (And.intro k1 (Exists.intro q1 (And.intro k2 (Exists.intro 0 (Exists.intro n1 (And.intro k3 (And.intro (B7 c5) (H8 c5))))))))))
/-- SnapshotRingsModel.countOf from 43 -/
theorem r_M_countOf_43 {s0 : Int32} {h : sn_H} {Q : Option Value → sn_H → Prop}
    (H1 : Q (some (.int s0)) h) :
    wpE 136 43 [none, none] [.int s0] h (0, 0) Q :=
  vc_s (ct := fun _ => false) 1000 false H1
/-- SnapshotRingsModel.countOf from 55 -/
theorem r_M_countOf_55 {s0 : Int32} {h : sn_H} {Q : Option Value → sn_H → Prop}
    (H1 : Q (some (.int s0)) h) :
    wpE 136 55 [none, none] [.int s0] h (0, 0) Q :=
  vc_s (ct := fun _ => false) 1000 false H1
/-- SnapshotRingsModel.count from 0 -/
theorem r_M_count_0 {v0 : Nat} {v1 : Int32} {h : sn_H} {Q : Option Value → sn_H → Prop}
    (k1 : hK h v0 = (0, 5, 16))
    (H1 : v1 < (nI 0) → Q (some (.int (-(nI 20002)))) h)
    (H2 : ¬ v1 < (nI 0) → (nI 7) < v1 → Q (some (.int (-(nI 20002)))) h)
    (H3 : ¬ v1 < (nI 0) → ¬ (nI 7) < v1 → wpE 136 0 [some (.ref v0), some (.int v1)] [] h (0, 0) (fun r hh => wpE 135 15 [none, none] (r.toList ++ []) hh (0, 0) Q)) :
    wpE 135 0 [some (.ref v0), some (.int v1)] [] h (0, 0) Q :=
  vc_s (ct := fun _ => false) 1000 false (And.intro (Nat.le_of_ble_eq_true rfl) (And.intro (Nat.le_of_ble_eq_true rfl) (And.intro (Nat.le_of_ble_eq_true rfl) (And.intro (Nat.le_of_ble_eq_true rfl) (r_M_within_0 (v0 := v1) (v1 := (nI 0)) (v2 := (nI 7)) (h := h) (fun c1 => (vc_s (ct := fun _ => false) 1000 false (And.intro (fun c2 => (H1 c1)) (fun c2 => absurd c2 (by decide))))) (fun c3 c4 => (vc_s (ct := fun _ => false) 1000 false (And.intro (fun c5 => (H2 c3 c4)) (fun c5 => absurd c5 (by decide))))) (fun c6 c7 => (vc_s (ct := fun _ => false) 1000 false (And.intro (fun c8 => absurd c8 (by decide)) (fun c8 => (And.intro k1 (And.intro (Nat.le_of_ble_eq_true rfl) (And.intro (Nat.le_of_ble_eq_true rfl) (And.intro (Nat.le_of_ble_eq_true rfl) (And.intro (Nat.le_of_ble_eq_true rfl) (wpE_m (fun _ _ HH => @wpE_w _ _ [none, none] _ _ _ _ _ (show LeL [none, none] [some (.ref v0), some (.int v1)] from trivial) HH) (H3 c6 c7))))))))))))))))
/-- SnapshotRingsModel.count from 15 -/
theorem r_M_count_15 {s0 : Int32} {h : sn_H} {Q : Option Value → sn_H → Prop}
    (H1 : Q (some (.int s0)) h) :
    wpE 135 15 [none, none] [.int s0] h (0, 0) Q :=
  vc_s (ct := fun _ => false) 1000 false H1
/-- SnapshotRingsModel.value from 0 -/
theorem r_M_value_0 {v0 : Nat} {v1 : Int32} {q1 : Nat} {n1 : Nat} {h : sn_H} {Q : Option Value → sn_H → Prop}
    (k1 : hK h v0 = (0, 5, 16))
    (k2 : hR h v0 0 = some q1)
    (k3 : hK h q1 = (1, 0, n1))
    (H1 : v1 < (nI 0) → Q (some (.int (-(nI 20001)))) h)
    (H2 : ¬ v1 < (nI 0) → (nI 11) < v1 → Q (some (.int (-(nI 20001)))) h)
    (B3 : ¬ v1 < (nI 0) → ¬ (nI 11) < v1 → vp_in (nI 12 + v1) n1)
    (H4 : ¬ v1 < (nI 0) → ¬ (nI 11) < v1 → Q (some (.int (hG h q1 (nI 12 + v1).toNatClampNeg))) h) :
    wpE 138 0 [some (.ref v0), some (.int v1)] [] h (0, 0) Q :=
  vc_s (ct := fun _ => false) 1000 false (And.intro (Nat.le_of_ble_eq_true rfl) (And.intro (Nat.le_of_ble_eq_true rfl) (And.intro (Nat.le_of_ble_eq_true rfl) (And.intro (Nat.le_of_ble_eq_true rfl) (r_M_isKey_0 (v0 := v1) (h := h) (fun c1 => (vc_s (ct := fun _ => false) 1000 false (And.intro (fun c2 => (H1 c1)) (fun c2 => absurd c2 (by decide))))) (fun c3 c4 => (vc_s (ct := fun _ => false) 1000 false (And.intro (fun c5 => (H2 c3 c4)) (fun c5 => absurd c5 (by decide))))) (fun c6 c7 => (vc_s (ct := fun _ => false) 1000 false (And.intro (fun c8 => absurd c8 (by decide)) (fun c8 => (And.intro k1 (Exists.intro q1 (And.intro k2 (Exists.intro 0 (Exists.intro n1 (And.intro k3 (And.intro (B3 c6 c7) (H4 c6 c7)))))))))))))))))
/-- SnapshotRingsModel.version from 0 -/
theorem r_M_version_0 {v0 : Nat} {v1 : Int32} {q1 : Nat} {n1 : Nat} {h : sn_H} {Q : Option Value → sn_H → Prop}
    (k1 : hK h v0 = (0, 5, 16))
    (k2 : hR h v0 0 = some q1)
    (k3 : hK h q1 = (1, 0, n1))
    (H1 : v1 < (nI 0) → Q (some (.int (-(nI 20001)))) h)
    (H2 : ¬ v1 < (nI 0) → (nI 11) < v1 → Q (some (.int (-(nI 20001)))) h)
    (B3 : ¬ v1 < (nI 0) → ¬ (nI 11) < v1 → vp_in (nI 24 + v1) n1)
    (H4 : ¬ v1 < (nI 0) → ¬ (nI 11) < v1 → Q (some (.int (hG h q1 (nI 24 + v1).toNatClampNeg))) h) :
    wpE 139 0 [some (.ref v0), some (.int v1)] [] h (0, 0) Q :=
  vc_s (ct := fun _ => false) 1000 false (And.intro (Nat.le_of_ble_eq_true rfl) (And.intro (Nat.le_of_ble_eq_true rfl) (And.intro (Nat.le_of_ble_eq_true rfl) (And.intro (Nat.le_of_ble_eq_true rfl) (r_M_isKey_0 (v0 := v1) (h := h) (fun c1 => (vc_s (ct := fun _ => false) 1000 false (And.intro (fun c2 => (H1 c1)) (fun c2 => absurd c2 (by decide))))) (fun c3 c4 => (vc_s (ct := fun _ => false) 1000 false (And.intro (fun c5 => (H2 c3 c4)) (fun c5 => absurd c5 (by decide))))) (fun c6 c7 => (vc_s (ct := fun _ => false) 1000 false (And.intro (fun c8 => absurd c8 (by decide)) (fun c8 => (And.intro k1 (Exists.intro q1 (And.intro k2 (Exists.intro 0 (Exists.intro n1 (And.intro k3 (And.intro (B3 c6 c7) (H4 c6 c7)))))))))))))))))
/-- SnapshotRingsModel.ofSlot from 0 -/
theorem r_M_ofSlot_0 {v0 : Nat} {v1 : Int32} {v2 : Int32} {q1 : Nat} {n1 : Nat} {h : sn_H} {Q : Option Value → sn_H → Prop}
    (k1 : hK h v0 = (0, 5, 16))
    (k2 : hR h v0 0 = some q1)
    (k3 : hK h q1 = (1, 0, n1))
    (B1 : ¬ v2 = nI 3 → vp_in ((nI 36 + (nI 40 * v1)) + v2) n1)
    (H2 : ¬ v2 = nI 3 → Q (some (.int (hG h q1 ((nI 36 + (nI 40 * v1)) + v2).toNatClampNeg))) h)
    (B3 : v2 = nI 3 → vp_in (nI 1) n1)
    (H4 : v2 = nI 3 → wpE 116 0 [some (.ref v0), some (.int v1), some (.int (hG h q1 (nI 1).toNatClampNeg))] [] h (0, 0) (fun r hh => wpE 141 16 [none, none, none] (r.toList ++ []) hh (0, 0) Q)) :
    wpE 141 0 [some (.ref v0), some (.int v1), some (.int v2)] [] h (0, 0) Q :=
  vc_s (ct := fun _ => false) 1000 false (And.intro (fun c1 => (And.intro k1 (And.intro (Nat.le_of_ble_eq_true rfl) (And.intro (Nat.le_of_ble_eq_true rfl) (And.intro (Nat.le_of_ble_eq_true rfl) (And.intro (Nat.le_of_ble_eq_true rfl) (r_M_slotPart_0 (v0 := v0) (v1 := v1) (v2 := v2) (q1 := q1) (n1 := n1) (h := h) k1 k2 k3 ((B1 c1)) ((vc_s (ct := fun _ => false) 1000 false (H2 c1)))))))))) (fun c2 => (And.intro k1 (Exists.intro q1 (And.intro k2 (Exists.intro 0 (Exists.intro n1 (And.intro k3 (And.intro (B3 c2) (And.intro k1 (And.intro (Nat.le_of_ble_eq_true rfl) (And.intro (Nat.le_of_ble_eq_true rfl) (And.intro (Nat.le_of_ble_eq_true rfl) (And.intro (Nat.le_of_ble_eq_true rfl) (wpE_m (fun _ _ HH => @wpE_w _ _ [none, none, none] _ _ _ _ _ (show LeL [none, none, none] [some (.ref v0), some (.int v1), some (.int v2)] from trivial) HH) (H4 c2))))))))))))))))
/-- SnapshotRingsModel.ofSlot from 16 -/
theorem r_M_ofSlot_16 {s0 : Int32} {h : sn_H} {Q : Option Value → sn_H → Prop}
    (H1 : Q (some (.int s0)) h) :
    wpE 141 16 [none, none, none] [.int s0] h (0, 0) Q :=
  vc_s (ct := fun _ => false) 1000 false H1
/-- SnapshotRingsModel.of from 0 -/
theorem r_M_of_0 {v0 : Nat} {v1 : Int32} {v2 : Int32} {q1 : Nat} {n1 : Nat} {h : sn_H} {Q : Option Value → sn_H → Prop}
    (k1 : hK h v0 = (0, 5, 16))
    (k2 : hR h v0 0 = some q1)
    (k3 : hK h q1 = (1, 0, n1))
    (H1 : v1 < (nI 0) → Q (some (.int (-(nI 20001)))) h)
    (H2 : ¬ v1 < (nI 0) → (nI 7) < v1 → Q (some (.int (-(nI 20001)))) h)
    (B3 : ¬ v1 < (nI 0) → ¬ (nI 7) < v1 → vp_in ((nI 36 + (nI 40 * v1)) + (nI 39)) n1)
    (H4 : ¬ v1 < (nI 0) → ¬ (nI 7) < v1 → ¬ (hG h q1 ((nI 36 + (nI 40 * v1)) + (nI 39)).toNatClampNeg) = nI 1 → Q (some (.int (-(nI 20001)))) h)
    (H5 : ¬ v1 < (nI 0) → ¬ (nI 7) < v1 → (hG h q1 ((nI 36 + (nI 40 * v1)) + (nI 39)).toNatClampNeg) = nI 1 → v2 < (nI 0) → Q (some (.int (-(nI 20002)))) h)
    (H6 : ¬ v1 < (nI 0) → ¬ (nI 7) < v1 → (hG h q1 ((nI 36 + (nI 40 * v1)) + (nI 39)).toNatClampNeg) = nI 1 → ¬ v2 < (nI 0) → (nI 3) < v2 → Q (some (.int (-(nI 20002)))) h)
    (H7 : ¬ v1 < (nI 0) → ¬ (nI 7) < v1 → (hG h q1 ((nI 36 + (nI 40 * v1)) + (nI 39)).toNatClampNeg) = nI 1 → ¬ v2 < (nI 0) → ¬ (nI 3) < v2 → wpE 141 0 [some (.ref v0), some (.int v1), some (.int v2)] [] h (0, 0) (fun r hh => wpE 140 27 [none, none, none] (r.toList ++ []) hh (0, 0) Q)) :
    wpE 140 0 [some (.ref v0), some (.int v1), some (.int v2)] [] h (0, 0) Q :=
  vc_s (ct := fun _ => false) 1000 false (And.intro k1 (And.intro (Nat.le_of_ble_eq_true rfl) (And.intro (Nat.le_of_ble_eq_true rfl) (And.intro (Nat.le_of_ble_eq_true rfl) (And.intro (Nat.le_of_ble_eq_true rfl) (r_M_isOpen_0 (v0 := v0) (v1 := v1) (q1 := q1) (n1 := n1) (h := h) k1 k2 k3 (fun c1 => (vc_s (ct := fun _ => false) 1000 false (And.intro (fun c2 => absurd c2 (by decide)) (fun c2 => (H1 c1))))) (fun c3 c4 => (vc_s (ct := fun _ => false) 1000 false (And.intro (fun c5 => absurd c5 (by decide)) (fun c5 => (H2 c3 c4))))) (fun c6 c7 => (B3 c6 c7)) (fun c8 c9 c10 => (vc_s (ct := fun _ => false) 1000 false (And.intro (fun c11 => absurd c11 (by decide)) (fun c11 => (H4 c8 c9 c10))))) (fun c12 c13 c14 => (vc_s (ct := fun _ => false) 1000 false (And.intro (fun c15 => (And.intro (Nat.le_of_ble_eq_true rfl) (And.intro (Nat.le_of_ble_eq_true rfl) (And.intro (Nat.le_of_ble_eq_true rfl) (And.intro (Nat.le_of_ble_eq_true rfl) (r_M_within_0 (v0 := v2) (v1 := (nI 0)) (v2 := (nI 3)) (h := h) (fun c16 => (vc_s (ct := fun _ => false) 1000 false (And.intro (fun c17 => (H5 c12 c13 c14 c16)) (fun c17 => absurd c17 (by decide))))) (fun c18 c19 => (vc_s (ct := fun _ => false) 1000 false (And.intro (fun c20 => (H6 c12 c13 c14 c18 c19)) (fun c20 => absurd c20 (by decide))))) (fun c21 c22 => (vc_s (ct := fun _ => false) 1000 false (And.intro (fun c23 => absurd c23 (by decide)) (fun c23 => (And.intro k1 (And.intro (Nat.le_of_ble_eq_true rfl) (And.intro (Nat.le_of_ble_eq_true rfl) (And.intro (Nat.le_of_ble_eq_true rfl) (And.intro (Nat.le_of_ble_eq_true rfl) (wpE_m (fun _ _ HH => @wpE_w _ _ [none, none, none] _ _ _ _ _ (show LeL [none, none, none] [some (.ref v0), some (.int v1), some (.int v2)] from trivial) HH) (H7 c12 c13 c14 c21 c22))))))))))))))))) (fun c15 => absurd c15 (by decide)))))))))))
/-- SnapshotRingsModel.of from 27 -/
theorem r_M_of_27 {s0 : Int32} {h : sn_H} {Q : Option Value → sn_H → Prop}
    (H1 : Q (some (.int s0)) h) :
    wpE 140 27 [none, none, none] [.int s0] h (0, 0) Q :=
  vc_s (ct := fun _ => false) 1000 false H1
/-- SnapshotRingsModel.isKept from 0 -/
theorem r_M_isKept_0 {v0 : Nat} {v1 : Int32} {h : sn_H} {Q : Option Value → sn_H → Prop}
    (k1 : hK h v0 = (0, 5, 16))
    (H1 : wpE 125 0 [some (.ref v0)] [] h (0, 0) (fun r hh => wpE 143 5 [some (.ref v0), none] (r.toList ++ [.int v1]) hh (0, 0) Q)) :
    wpE 143 0 [some (.ref v0), some (.int v1)] [] h (0, 0) Q :=
  vc_s (ct := fun _ => false) 1000 false (And.intro k1 (And.intro (Nat.le_of_ble_eq_true rfl) (And.intro (Nat.le_of_ble_eq_true rfl) (And.intro (Nat.le_of_ble_eq_true rfl) (And.intro (Nat.le_of_ble_eq_true rfl) (wpE_m (fun _ _ HH => @wpE_w _ _ [some (.ref v0), none] _ _ _ _ _ (show LeL [some (.ref v0), none] [some (.ref v0), some (.int v1)] from (And.intro rfl trivial)) HH) H1))))))
/-- SnapshotRingsModel.isKept from 5 -/
theorem r_M_isKept_5 {v0 : Nat} {s0 : Int32} {s1 : Int32} {q1 : Nat} {n1 : Nat} {h : sn_H} {Q : Option Value → sn_H → Prop}
    (k1 : hK h v0 = (0, 5, 16))
    (k2 : hR h v0 0 = some q1)
    (k3 : hK h q1 = (1, 0, n1))
    (B1 : vp_in (nI 0) n1)
    (H2 : s0 < s1 → Q (some (.int (nI 0))) h)
    (H3 : ¬ s0 < s1 → (hG h q1 (nI 0).toNatClampNeg) < s0 → Q (some (.int (nI 0))) h)
    (H4 : ¬ s0 < s1 → ¬ (hG h q1 (nI 0).toNatClampNeg) < s0 → Q (some (.int (nI 1))) h) :
    wpE 143 5 [some (.ref v0), none] [.int s1, .int s0] h (0, 0) Q :=
  vc_s (ct := fun _ => false) 1000 false (And.intro k1 (Exists.intro q1 (And.intro k2 (Exists.intro 0 (Exists.intro n1 (And.intro k3 (And.intro B1 (And.intro (Nat.le_of_ble_eq_true rfl) (And.intro (Nat.le_of_ble_eq_true rfl) (And.intro (Nat.le_of_ble_eq_true rfl) (And.intro (Nat.le_of_ble_eq_true rfl) (r_M_within_0 (v0 := s0) (v1 := s1) (v2 := (hG h q1 (nI 0).toNatClampNeg)) (h := h) (fun c1 => (vc_s (ct := fun _ => false) 1000 false (And.intro rfl (H2 c1)))) (fun c2 c3 => (vc_s (ct := fun _ => false) 1000 false (And.intro rfl (H3 c2 c3)))) (fun c4 c5 => (vc_s (ct := fun _ => false) 1000 false (And.intro rfl (H4 c4 c5))))))))))))))))
/-- SnapshotRingsModel.ofCommit from 0 -/
theorem r_M_ofCommit_0 {v0 : Nat} {v1 : Int32} {v2 : Int32} {h : sn_H} {Q : Option Value → sn_H → Prop}
    (k1 : hK h v0 = (0, 5, 16))
    (H1 : wpE 143 0 [some (.ref v0), some (.int v1)] [] h (0, 0) (fun r hh => wpE 142 5 [some (.ref v0), some (.int v1), some (.int v2)] (r.toList ++ []) hh (0, 0) Q)) :
    wpE 142 0 [some (.ref v0), some (.int v1), some (.int v2)] [] h (0, 0) Q :=
  vc_s (ct := fun _ => false) 1000 false (And.intro k1 (And.intro (Nat.le_of_ble_eq_true rfl) (And.intro (Nat.le_of_ble_eq_true rfl) (And.intro (Nat.le_of_ble_eq_true rfl) (And.intro (Nat.le_of_ble_eq_true rfl) H1)))))
/-- SnapshotRingsModel.ofCommit from 5 -/
theorem r_M_ofCommit_5 {v0 : Nat} {v1 : Int32} {v2 : Int32} {s0 : Int32} {q1 : Nat} {n1 : Nat} {h : sn_H} {Q : Option Value → sn_H → Prop}
    (k1 : hK h v0 = (0, 5, 16))
    (k2 : hR h v0 0 = some q1)
    (k3 : hK h q1 = (1, 0, n1))
    (H1 : ¬ s0 = 0 → v2 < (nI 0) → Q (some (.int (-(nI 20002)))) h)
    (H2 : ¬ s0 = 0 → ¬ v2 < (nI 0) → (nI 2) < v2 → Q (some (.int (-(nI 20002)))) h)
    (B3 : ¬ s0 = 0 → ¬ v2 < (nI 0) → ¬ (nI 2) < v2 → vp_in ((nI 356 + (nI 15 * (v1 - v1 / nI 16 * nI 16))) + v2) n1)
    (H4 : ¬ s0 = 0 → ¬ v2 < (nI 0) → ¬ (nI 2) < v2 → Q (some (.int (hG h q1 ((nI 356 + (nI 15 * (v1 - v1 / nI 16 * nI 16))) + v2).toNatClampNeg))) h)
    (H5 : s0 = 0 → Q (some (.int (-(nI 20001)))) h) :
    wpE 142 5 [some (.ref v0), some (.int v1), some (.int v2)] [.int s0] h (0, 0) Q :=
  vc_s (ct := fun _ => false) 1000 false (And.intro (fun c1 => (And.intro (Nat.le_of_ble_eq_true rfl) (And.intro (Nat.le_of_ble_eq_true rfl) (And.intro (Nat.le_of_ble_eq_true rfl) (And.intro (Nat.le_of_ble_eq_true rfl) (r_M_within_0 (v0 := v2) (v1 := (nI 0)) (v2 := (nI 2)) (h := h) (fun c2 => (vc_s (ct := fun _ => false) 1000 false (And.intro (fun c3 => (H1 c1 c2)) (fun c3 => absurd c3 (by decide))))) (fun c4 c5 => (vc_s (ct := fun _ => false) 1000 false (And.intro (fun c6 => (H2 c1 c4 c5)) (fun c6 => absurd c6 (by decide))))) (fun c7 c8 => (vc_s (ct := fun _ => false) 1000 false (And.intro (fun c9 => absurd c9 (by decide)) (fun c9 => (And.intro k1 (Exists.intro q1 (And.intro k2 (And.intro (Nat.le_of_ble_eq_true rfl) (And.intro (Nat.le_of_ble_eq_true rfl) (And.intro (Nat.le_of_ble_eq_true rfl) (And.intro (Nat.le_of_ble_eq_true rfl) (r_M_keptAt_0 (v0 := v1) (h := h) ((vc_s (ct := fun _ => false) 1000 false (Exists.intro 0 (Exists.intro n1 (And.intro k3 (And.intro (B3 c1 c7 c8) (H4 c1 c7 c8))))))))))))))))))))))))) (fun c10 => (H5 c10)))
/-- SnapshotRingsModel.dependency from 0 -/
theorem r_M_dependency_0 {v0 : Nat} {v1 : Int32} {v2 : Int32} {h : sn_H} {Q : Option Value → sn_H → Prop}
    (k1 : hK h v0 = (0, 5, 16))
    (H1 : wpE 143 0 [some (.ref v0), some (.int v1)] [] h (0, 0) (fun r hh => wpE 144 5 [some (.ref v0), some (.int v1), some (.int v2)] (r.toList ++ []) hh (0, 0) Q)) :
    wpE 144 0 [some (.ref v0), some (.int v1), some (.int v2)] [] h (0, 0) Q :=
  vc_s (ct := fun _ => false) 1000 false (And.intro k1 (And.intro (Nat.le_of_ble_eq_true rfl) (And.intro (Nat.le_of_ble_eq_true rfl) (And.intro (Nat.le_of_ble_eq_true rfl) (And.intro (Nat.le_of_ble_eq_true rfl) H1)))))
/-- SnapshotRingsModel.dependency from 5 -/
theorem r_M_dependency_5 {v0 : Nat} {v1 : Int32} {v2 : Int32} {s0 : Int32} {h : sn_H} {Q : Option Value → sn_H → Prop}
    (k1 : hK h v0 = (0, 5, 16))
    (H1 : s0 = 0 → Q (some (.int (-(nI 20001)))) h)
    (H2 : ¬ s0 = 0 → wpE 143 0 [some (.ref v0), some (.int v2)] [] h (0, 0) (fun r hh => wpE 144 13 [some (.ref v0), some (.int v1), some (.int v2)] (r.toList ++ []) hh (0, 0) Q)) :
    wpE 144 5 [some (.ref v0), some (.int v1), some (.int v2)] [.int s0] h (0, 0) Q :=
  vc_s (ct := fun _ => false) 1000 false (And.intro (fun c1 => (H1 c1)) (fun c2 => (And.intro k1 (And.intro (Nat.le_of_ble_eq_true rfl) (And.intro (Nat.le_of_ble_eq_true rfl) (And.intro (Nat.le_of_ble_eq_true rfl) (And.intro (Nat.le_of_ble_eq_true rfl) (H2 c2))))))))
/-- SnapshotRingsModel.dependency from 13 -/
theorem r_M_dependency_13 {v0 : Nat} {v1 : Int32} {v2 : Int32} {s0 : Int32} {h : sn_H} {Q : Option Value → sn_H → Prop}
    (k1 : hK h v0 = (0, 5, 16))
    (H1 : ¬ s0 = 0 → ¬ v1 = v2 → wpE 125 0 [some (.ref v0)] [] h (0, 0) (fun r hh => wpE 144 37 [some (.ref v0), none, some (.int v2)] (r.toList ++ [.int v1, .ref v0]) hh (0, 0) Q))
    (H2 : ¬ s0 = 0 → v1 = v2 → Q (some (.int (-(nI 20002)))) h)
    (H3 : s0 = 0 → Q (some (.int (-(nI 20001)))) h) :
    wpE 144 13 [some (.ref v0), some (.int v1), some (.int v2)] [.int s0] h (0, 0) Q :=
  vc_s (ct := fun _ => false) 1000 false (And.intro (fun c1 => (And.intro (fun c2 => (And.intro k1 (And.intro (Nat.le_of_ble_eq_true rfl) (And.intro (Nat.le_of_ble_eq_true rfl) (And.intro (Nat.le_of_ble_eq_true rfl) (And.intro (Nat.le_of_ble_eq_true rfl) (wpE_m (fun _ _ HH => @wpE_w _ _ [some (.ref v0), none, some (.int v2)] _ _ _ _ _ (show LeL [some (.ref v0), none, some (.int v2)] [some (.ref v0), some (.int v1), some (.int v2)] from (And.intro rfl (And.intro rfl trivial))) HH) (H1 c1 c2)))))))) (fun c3 => (H2 c1 c3)))) (fun c4 => (H3 c4)))
/-- SnapshotRingsModel.dependency from 37 -/
theorem r_M_dependency_37 {v0 : Nat} {v2 : Int32} {s0 : Nat} {s1 : Int32} {s2 : Int32} {h : sn_H} {Q : Option Value → sn_H → Prop}
    (k1 : hK h v0 = (0, 5, 16))
    (H1 : wpE 125 0 [some (.ref v0)] [] h (0, 0) (fun r hh => wpE 144 43 [none, none, none] (r.toList ++ [.int v2, .int (s1 - s2), .ref s0]) hh (0, 0) Q)) :
    wpE 144 37 [some (.ref v0), none, some (.int v2)] [.int s2, .int s1, .ref s0] h (0, 0) Q :=
  vc_s (ct := fun _ => false) 1000 false (And.intro k1 (And.intro (Nat.le_of_ble_eq_true rfl) (And.intro (Nat.le_of_ble_eq_true rfl) (And.intro (Nat.le_of_ble_eq_true rfl) (And.intro (Nat.le_of_ble_eq_true rfl) (wpE_m (fun _ _ HH => @wpE_w _ _ [none, none, none] _ _ _ _ _ (show LeL [none, none, none] [some (.ref v0), none, some (.int v2)] from trivial) HH) H1))))))
/-- SnapshotRingsModel.dependency from 43 -/
theorem r_M_dependency_43 {s0 : Nat} {s1 : Int32} {s2 : Int32} {s3 : Int32} {h : sn_H} {Q : Option Value → sn_H → Prop}
    (k1 : hK h s0 = (0, 5, 16))
    (H1 : wpE 122 0 [some (.ref s0), some (.int s1), some (.int (s2 - s3)), none, none, none, none, none, none] [] h (0, 0) (fun r hh => wpE 144 47 [none, none, none] (r.toList ++ []) hh (0, 0) Q)) :
    wpE 144 43 [none, none, none] [.int s3, .int s2, .int s1, .ref s0] h (0, 0) Q :=
  vc_s (ct := fun _ => false) 1000 false (And.intro k1 (And.intro (Nat.le_of_ble_eq_true rfl) (And.intro (Nat.le_of_ble_eq_true rfl) (And.intro (Nat.le_of_ble_eq_true rfl) (And.intro (Nat.le_of_ble_eq_true rfl) H1)))))
/-- SnapshotRingsModel.dependency from 47 -/
theorem r_M_dependency_47 {s0 : Int32} {h : sn_H} {Q : Option Value → sn_H → Prop}
    (H1 : Q (some (.int s0)) h) :
    wpE 144 47 [none, none, none] [.int s0] h (0, 0) Q :=
  vc_s (ct := fun _ => false) 1000 false H1
/-- SnapshotRingsModel.ringOf from 0 -/
theorem r_M_ringOf_0 {v0 : Nat} {v1 : Int32} {v2 : Int32} {q1 : Nat} {n1 : Nat} {h : sn_H} {Q : Option Value → sn_H → Prop}
    (k1 : hK h v0 = (0, 5, 16))
    (k2 : hR h v0 0 = some q1)
    (k3 : hK h q1 = (1, 0, n1))
    (H1 : v1 < (nI 0) → Q (some (.int (-(nI 20001)))) h)
    (H2 : ¬ v1 < (nI 0) → (nI 7) < v1 → Q (some (.int (-(nI 20001)))) h)
    (B3 : ¬ v1 < (nI 0) → ¬ (nI 7) < v1 → vp_in ((nI 36 + (nI 40 * v1)) + (nI 39)) n1)
    (H4 : ¬ v1 < (nI 0) → ¬ (nI 7) < v1 → ¬ (hG h q1 ((nI 36 + (nI 40 * v1)) + (nI 39)).toNatClampNeg) = nI 1 → Q (some (.int (-(nI 20001)))) h)
    (H5 : ¬ v1 < (nI 0) → ¬ (nI 7) < v1 → (hG h q1 ((nI 36 + (nI 40 * v1)) + (nI 39)).toNatClampNeg) = nI 1 → nI 1 ≤ v2 → wpE 118 0 [some (.ref v0), some (.int v1)] [] h (0, 0) (fun r hh => wpE 145 26 [some (.ref v0), none, some (.int v2), none, none] (r.toList ++ []) hh (0, 0) Q))
    (H6 : ¬ v1 < (nI 0) → ¬ (nI 7) < v1 → (hG h q1 ((nI 36 + (nI 40 * v1)) + (nI 39)).toNatClampNeg) = nI 1 → ¬ nI 1 ≤ v2 → Q (some (.int (-(nI 20002)))) h) :
    wpE 145 0 [some (.ref v0), some (.int v1), some (.int v2), none, none] [] h (0, 0) Q :=
  vc_s (ct := fun pc => Nat.beq pc 39) 1000 false (And.intro k1 (And.intro (Nat.le_of_ble_eq_true rfl) (And.intro (Nat.le_of_ble_eq_true rfl) (And.intro (Nat.le_of_ble_eq_true rfl) (And.intro (Nat.le_of_ble_eq_true rfl) (r_M_isOpen_0 (v0 := v0) (v1 := v1) (q1 := q1) (n1 := n1) (h := h) k1 k2 k3 (fun c1 => (vc_s (ct := fun pc => Nat.beq pc 39) 1000 false (And.intro (fun c2 => absurd c2 (by decide)) (fun c2 => (H1 c1))))) (fun c3 c4 => (vc_s (ct := fun pc => Nat.beq pc 39) 1000 false (And.intro (fun c5 => absurd c5 (by decide)) (fun c5 => (H2 c3 c4))))) (fun c6 c7 => (B3 c6 c7)) (fun c8 c9 c10 => (vc_s (ct := fun pc => Nat.beq pc 39) 1000 false (And.intro (fun c11 => absurd c11 (by decide)) (fun c11 => (H4 c8 c9 c10))))) (fun c12 c13 c14 => (vc_s (ct := fun pc => Nat.beq pc 39) 1000 false (And.intro (fun c15 => (And.intro (fun c16 => (And.intro k1 (And.intro (Nat.le_of_ble_eq_true rfl) (And.intro (Nat.le_of_ble_eq_true rfl) (And.intro (Nat.le_of_ble_eq_true rfl) (And.intro (Nat.le_of_ble_eq_true rfl) (wpE_m (fun _ _ HH => @wpE_w _ _ [some (.ref v0), none, some (.int v2), none, none] _ _ _ _ _ (show LeL [some (.ref v0), none, some (.int v2), none, none] [some (.ref v0), some (.int v1), some (.int v2), none, none] from (And.intro rfl (And.intro rfl trivial))) HH) (H5 c12 c13 c14 c16)))))))) (fun c17 => (H6 c12 c13 c14 c17)))) (fun c15 => absurd c15 (by decide)))))))))))
/-- SnapshotRingsModel.ringOf from 26 -/
theorem r_M_ringOf_26 {v0 : Nat} {v2 : Int32} {s0 : Int32} {h : sn_H} {Q : Option Value → sn_H → Prop}
    (H1 : ¬ s0 = 0 → wpE 145 39 [some (.ref v0), none, some (.int v2), some (.int (nI 16)), some (.int (nI 0))] [] h (0, 0) Q)
    (H2 : s0 = 0 → Q (some (.int (-(nI 20006)))) h) :
    wpE 145 26 [some (.ref v0), none, some (.int v2), none, none] [.int s0] h (0, 0) Q :=
  vc_s (ct := fun pc => Nat.beq pc 39) 1000 false (And.intro (fun c1 => (And.intro (Nat.le_of_ble_eq_true rfl) (And.intro (Nat.le_of_ble_eq_true rfl) (H1 c1)))) (fun c2 => (H2 c2)))
/-- SnapshotRingsModel.ringOf from 39 -/
theorem r_M_ringOf_39 {v0 : Nat} {v2 : Int32} {v3 : Int32} {v4 : Int32} {h : sn_H} {Q : Option Value → sn_H → Prop}
    (k1 : hK h v0 = (0, 5, 16))
    (H1 : v2 ≤ v4 → wpE 124 0 [some (.ref v0), some (.int v3)] [] h (0, 0) (fun r hh => wpE 145 72 [none, none, none, none, none] (r.toList ++ []) hh (0, 0) Q))
    (H2 : ¬ v2 ≤ v4 → wpE 128 0 [some (.ref v0), some (.int v3), none, none, none] [] h (0, 0) (fun r hh => wpE 145 50 [some (.ref v0), none, some (.int v2), none, some (.int v4)] (r.toList ++ []) hh (0, 0) Q)) :
    wpE 145 39 [some (.ref v0), none, some (.int v2), some (.int v3), some (.int v4)] [] h (0, 0) Q :=
  vc_s (ct := fun pc => Nat.beq pc 39) 1000 false (And.intro (fun c1 => (And.intro k1 (And.intro (Nat.le_of_ble_eq_true rfl) (And.intro (Nat.le_of_ble_eq_true rfl) (And.intro (Nat.le_of_ble_eq_true rfl) (And.intro (Nat.le_of_ble_eq_true rfl) (wpE_m (fun _ _ HH => @wpE_w _ _ [none, none, none, none, none] _ _ _ _ _ (show LeL [none, none, none, none, none] [some (.ref v0), none, some (.int v2), some (.int v3), some (.int v4)] from trivial) HH) (H1 c1)))))))) (fun c2 => (And.intro k1 (And.intro (Nat.le_of_ble_eq_true rfl) (And.intro (Nat.le_of_ble_eq_true rfl) (And.intro (Nat.le_of_ble_eq_true rfl) (And.intro (Nat.le_of_ble_eq_true rfl) (wpE_m (fun _ _ HH => @wpE_w _ _ [some (.ref v0), none, some (.int v2), none, some (.int v4)] _ _ _ _ _ (show LeL [some (.ref v0), none, some (.int v2), none, some (.int v4)] [some (.ref v0), none, some (.int v2), some (.int v3), some (.int v4)] from (And.intro rfl (And.intro rfl (And.intro rfl trivial)))) HH) (H2 c2)))))))))
/-- SnapshotRingsModel.ringOf from 72 -/
theorem r_M_ringOf_72 {s0 : Int32} {h : sn_H} {Q : Option Value → sn_H → Prop}
    (H1 : Q (some (.int s0)) h) :
    wpE 145 72 [none, none, none, none, none] [.int s0] h (0, 0) Q :=
  vc_s (ct := fun pc => Nat.beq pc 39) 1000 false H1
/-- SnapshotRingsModel.ringOf from 50 -/
theorem r_M_ringOf_50 {v0 : Nat} {v2 : Int32} {v4 : Int32} {s0 : Int32} {h : sn_H} {Q : Option Value → sn_H → Prop}
    (H1 : ¬ s0 = nI 16 → wpE 145 39 [some (.ref v0), none, some (.int v2), some (.int s0), some (.int (v4 + nI 1))] [] h (0, 0) Q)
    (H2 : s0 = nI 16 → Q (some (.int (-(nI 20006)))) h) :
    wpE 145 50 [some (.ref v0), none, some (.int v2), none, some (.int v4)] [.int s0] h (0, 0) Q :=
  vc_s (ct := fun pc => Nat.beq pc 39) 1000 false (And.intro (Nat.le_of_ble_eq_true rfl) (And.intro (fun c1 => (And.intro (Nat.le_of_ble_eq_true rfl) (H1 c1))) (fun c2 => (H2 c2))))
/-- SnapshotRingsModel.findCommits from 0 -/
theorem r_M_findCommits_0 {v0 : Nat} {v1 : Int32} {h : sn_H} {Q : Option Value → sn_H → Prop}
    (k1 : hK h v0 = (0, 5, 16))
    (H1 : wpE 119 0 [some (.ref v0), some (.int v1), none, none] [] (setG h v0 6 (-(nI 20006))) (0, 0) (fun r hh => wpE 148 12 [none, none] (r.toList ++ []) hh (0, 0) Q)) :
    wpE 148 0 [some (.ref v0), some (.int v1)] [] h (0, 0) Q :=
  vc_s (ct := fun _ => false) 1000 false (And.intro k1 (And.intro rfl (And.intro k1 (And.intro (Nat.le_of_ble_eq_true rfl) (And.intro (Nat.le_of_ble_eq_true rfl) (And.intro (Nat.le_of_ble_eq_true rfl) (And.intro (Nat.le_of_ble_eq_true rfl) (wpE_m (fun _ _ HH => @wpE_w _ _ [none, none] _ _ _ _ _ (show LeL [none, none] [some (.ref v0), some (.int v1)] from trivial) HH) H1))))))))
/-- SnapshotRingsModel.findCommits from 12 -/
theorem r_M_findCommits_12  {h : sn_H} {Q : Option Value → sn_H → Prop}
    (H1 : Q none h) :
    wpE 148 12 [none, none] [] h (0, 0) Q :=
  vc_s (ct := fun _ => false) 1000 false (And.intro rfl H1)
/-- SnapshotRingsModel.ringsMany from 0 -/
theorem r_M_ringsMany_0 {v0 : Nat} {h : sn_H} {Q : Option Value → sn_H → Prop}
    (k1 : hK h v0 = (0, 5, 16))
    (H1 : wpE 148 0 [some (.ref v0), some (.int (nI 7))] [] h (0, 0) (fun r hh => wpE 147 6 [some (.ref v0), none, none] (r.toList ++ []) hh (0, 0) Q)) :
    wpE 147 0 [some (.ref v0), none, none] [] h (0, 0) Q :=
  vc_s (ct := fun pc => Nat.beq pc 10) 1000 false (And.intro k1 (And.intro (Nat.le_of_ble_eq_true rfl) (And.intro (Nat.le_of_ble_eq_true rfl) (And.intro (Nat.le_of_ble_eq_true rfl) (And.intro (Nat.le_of_ble_eq_true rfl) H1)))))
/-- SnapshotRingsModel.ringsMany from 6 -/
theorem r_M_ringsMany_6 {v0 : Nat} {h : sn_H} {Q : Option Value → sn_H → Prop}
    (H1 : wpE 147 10 [some (.ref v0), some (.int (nI 0)), some (.int (nI 0))] [] h (0, 0) Q) :
    wpE 147 6 [some (.ref v0), none, none] [] h (0, 0) Q :=
  vc_s (ct := fun pc => Nat.beq pc 10) 1000 false (And.intro (Nat.le_of_ble_eq_true rfl) (And.intro (Nat.le_of_ble_eq_true rfl) H1))
/-- SnapshotRingsModel.ringsMany from 10 -/
theorem r_M_ringsMany_10 {v0 : Nat} {v1 : Int32} {v2 : Int32} {h : sn_H} {Q : Option Value → sn_H → Prop}
    (k1 : hK h v0 = (0, 5, 16))
    (H1 : wpE 121 0 [some (.ref v0)] [] h (0, 0) (fun r hh => wpE 147 15 [some (.ref v0), some (.int v1), some (.int v2)] (r.toList ++ [.int v2]) hh (0, 0) Q)) :
    wpE 147 10 [some (.ref v0), some (.int v1), some (.int v2)] [] h (0, 0) Q :=
  vc_s (ct := fun pc => Nat.beq pc 10) 1000 false (And.intro k1 (And.intro (Nat.le_of_ble_eq_true rfl) (And.intro (Nat.le_of_ble_eq_true rfl) (And.intro (Nat.le_of_ble_eq_true rfl) (And.intro (Nat.le_of_ble_eq_true rfl) H1)))))
/-- SnapshotRingsModel.ringsMany from 15 -/
theorem r_M_ringsMany_15 {v0 : Nat} {v1 : Int32} {v2 : Int32} {s0 : Int32} {s1 : Int32} {h : sn_H} {Q : Option Value → sn_H → Prop}
    (k1 : hK h v0 = (0, 5, 16))
    (H1 : s1 ≤ s0 → Q (some (.int v1)) h)
    (H2 : ¬ s1 ≤ s0 → wpE 127 0 [some (.ref v0), some (.int v2), none, none, none] [] h (0, 0) (fun r hh => wpE 147 23 [some (.ref v0), some (.int v1), some (.int v2)] (r.toList ++ []) hh (0, 0) Q)) :
    wpE 147 15 [some (.ref v0), some (.int v1), some (.int v2)] [.int s1, .int s0] h (0, 0) Q :=
  vc_s (ct := fun pc => Nat.beq pc 10) 1000 false (And.intro (fun c1 => (H1 c1)) (fun c2 => (And.intro k1 (And.intro (Nat.le_of_ble_eq_true rfl) (And.intro (Nat.le_of_ble_eq_true rfl) (And.intro (Nat.le_of_ble_eq_true rfl) (And.intro (Nat.le_of_ble_eq_true rfl) (H2 c2))))))))
/-- SnapshotRingsModel.ringsMany from 23 -/
theorem r_M_ringsMany_23 {v0 : Nat} {v1 : Int32} {v2 : Int32} {h : sn_H} {Q : Option Value → sn_H → Prop}
    (k1 : hK h v0 = (0, 5, 16))
    (H1 : wpE 128 0 [some (.ref v0), some (.int v2), none, none, none] [] h (0, 0) (fun r hh => wpE 147 29 [some (.ref v0), none, some (.int v2)] (r.toList ++ [.int v1]) hh (0, 0) Q)) :
    wpE 147 23 [some (.ref v0), some (.int v1), some (.int v2)] [] h (0, 0) Q :=
  vc_s (ct := fun pc => Nat.beq pc 10) 1000 false (And.intro k1 (And.intro (Nat.le_of_ble_eq_true rfl) (And.intro (Nat.le_of_ble_eq_true rfl) (And.intro (Nat.le_of_ble_eq_true rfl) (And.intro (Nat.le_of_ble_eq_true rfl) (wpE_m (fun _ _ HH => @wpE_w _ _ [some (.ref v0), none, some (.int v2)] _ _ _ _ _ (show LeL [some (.ref v0), none, some (.int v2)] [some (.ref v0), some (.int v1), some (.int v2)] from (And.intro rfl (And.intro rfl trivial))) HH) H1))))))
/-- SnapshotRingsModel.ringsMany from 29 -/
theorem r_M_ringsMany_29 {v0 : Nat} {v2 : Int32} {s0 : Int32} {s1 : Int32} {h : sn_H} {Q : Option Value → sn_H → Prop}
    (H1 : ¬ s1 = -(nI 20006) → wpE 147 10 [some (.ref v0), some (.int (s0 + nI 1)), some (.int (v2 + nI 1))] [] h (0, 0) Q)
    (H2 : s1 = -(nI 20006) → wpE 147 10 [some (.ref v0), some (.int (s0 + nI 0)), some (.int (v2 + nI 1))] [] h (0, 0) Q) :
    wpE 147 29 [some (.ref v0), none, some (.int v2)] [.int s1, .int s0] h (0, 0) Q :=
  vc_s (ct := fun pc => Nat.beq pc 10) 1000 false (And.intro (fun c1 => (And.intro (Nat.le_of_ble_eq_true rfl) (And.intro (Nat.le_of_ble_eq_true rfl) (H1 c1)))) (fun c2 => (And.intro (Nat.le_of_ble_eq_true rfl) (And.intro (Nat.le_of_ble_eq_true rfl) (H2 c2)))))
/-- SnapshotRingsModel.inRings from 0 -/
theorem r_M_inRings_0 {v0 : Nat} {h : sn_H} {Q : Option Value → sn_H → Prop}
    (k1 : hK h v0 = (0, 5, 16))
    (H1 : wpE 147 0 [some (.ref v0), none, none] [] h (0, 0) (fun r hh => wpE 146 4 [none] (r.toList ++ []) hh (0, 0) Q)) :
    wpE 146 0 [some (.ref v0)] [] h (0, 0) Q :=
  vc_s (ct := fun _ => false) 1000 false (And.intro k1 (And.intro (Nat.le_of_ble_eq_true rfl) (And.intro (Nat.le_of_ble_eq_true rfl) (And.intro (Nat.le_of_ble_eq_true rfl) (And.intro (Nat.le_of_ble_eq_true rfl) (wpE_m (fun _ _ HH => @wpE_w _ _ [none] _ _ _ _ _ (show LeL [none] [some (.ref v0)] from trivial) HH) H1))))))
/-- SnapshotRingsModel.inRings from 4 -/
theorem r_M_inRings_4 {s0 : Int32} {h : sn_H} {Q : Option Value → sn_H → Prop}
    (H1 : Q (some (.int s0)) h) :
    wpE 146 4 [none] [.int s0] h (0, 0) Q :=
  vc_s (ct := fun _ => false) 1000 false H1
/-- SnapshotRingsModel.findOrder from 0 -/
theorem r_M_findOrder_0 {v0 : Nat} {h : sn_H} {Q : Option Value → sn_H → Prop}
    (k1 : hK h v0 = (0, 5, 16))
    (H1 : wpE 148 0 [some (.ref v0), some (.int (nI 7))] [] h (0, 0) (fun r hh => wpE 150 6 [some (.ref v0), none, none, none, none, none, none] (r.toList ++ []) hh (0, 0) Q)) :
    wpE 150 0 [some (.ref v0), none, none, none, none, none, none] [] h (0, 0) Q :=
  vc_s (ct := fun pc => Nat.beq pc 22 || Nat.beq pc 38 || Nat.beq pc 63) 1000 false (And.intro k1 (And.intro (Nat.le_of_ble_eq_true rfl) (And.intro (Nat.le_of_ble_eq_true rfl) (And.intro (Nat.le_of_ble_eq_true rfl) (And.intro (Nat.le_of_ble_eq_true rfl) H1)))))
/-- SnapshotRingsModel.findOrder from 6 -/
theorem r_M_findOrder_6 {v0 : Nat} {h : sn_H} {Q : Option Value → sn_H → Prop}
    (k1 : hK h v0 = (0, 5, 16))
    (H1 : wpE 121 0 [some (.ref v0)] [] (setG h v0 10 (nI 0)) (0, 0) (fun r hh => wpE 150 16 [some (.ref v0), none, none, none, none, none, none] (r.toList ++ [.int (nI 1)]) hh (0, 0) Q)) :
    wpE 150 6 [some (.ref v0), none, none, none, none, none, none] [] h (0, 0) Q :=
  vc_s (ct := fun pc => Nat.beq pc 22 || Nat.beq pc 38 || Nat.beq pc 63) 1000 false (And.intro k1 (And.intro rfl (And.intro k1 (And.intro (Nat.le_of_ble_eq_true rfl) (And.intro (Nat.le_of_ble_eq_true rfl) (And.intro (Nat.le_of_ble_eq_true rfl) (And.intro (Nat.le_of_ble_eq_true rfl) H1)))))))
/-- SnapshotRingsModel.findOrder from 16 -/
theorem r_M_findOrder_16 {v0 : Nat} {s0 : Int32} {s1 : Int32} {h : sn_H} {Q : Option Value → sn_H → Prop}
    (H1 : wpE 150 22 [some (.ref v0), some (.int ((s0 <<< (s1 &&& 31)) - nI 1)), some (.int (nI 1)), none, none, none, none] [] h (0, 0) Q) :
    wpE 150 16 [some (.ref v0), none, none, none, none, none, none] [.int s1, .int s0] h (0, 0) Q :=
  vc_s (ct := fun pc => Nat.beq pc 22 || Nat.beq pc 38 || Nat.beq pc 63) 1000 false (And.intro (Nat.le_of_ble_eq_true rfl) (And.intro (Nat.le_of_ble_eq_true rfl) H1))
/-- SnapshotRingsModel.findOrder from 22 -/
theorem r_M_findOrder_22 {v0 : Nat} {v1 : Int32} {v2 : Int32} {h : sn_H} {Q : Option Value → sn_H → Prop}
    (k1 : hK h v0 = (0, 5, 16))
    (H1 : v2 = 0 → Q none h)
    (H2 : ¬ v2 = 0 → wpE 121 0 [some (.ref v0)] [] h (0, 0) (fun r hh => wpE 150 34 [some (.ref v0), some (.int v1), none, some (.int (-(nI 20006))), none, none, none] (r.toList ++ []) hh (0, 0) Q)) :
    wpE 150 22 [some (.ref v0), some (.int v1), some (.int v2), none, none, none, none] [] h (0, 0) Q :=
  vc_s (ct := fun pc => Nat.beq pc 22 || Nat.beq pc 38 || Nat.beq pc 63) 1000 false (And.intro (fun c1 => (And.intro rfl (H1 c1))) (fun c2 => (And.intro (Nat.le_of_ble_eq_true rfl) (And.intro k1 (And.intro (Nat.le_of_ble_eq_true rfl) (And.intro (Nat.le_of_ble_eq_true rfl) (And.intro (Nat.le_of_ble_eq_true rfl) (And.intro (Nat.le_of_ble_eq_true rfl) (wpE_m (fun _ _ HH => @wpE_w _ _ [some (.ref v0), some (.int v1), none, some (.int (-(nI 20006))), none, none, none] _ _ _ _ _ (show LeL [some (.ref v0), some (.int v1), none, some (.int (-(nI 20006))), none, none, none] [some (.ref v0), some (.int v1), some (.int v2), some (.int (-(nI 20006))), none, none, none] from (And.intro rfl (And.intro rfl (And.intro rfl trivial)))) HH) (H2 c2))))))))))
/-- SnapshotRingsModel.findOrder from 34 -/
theorem r_M_findOrder_34 {v0 : Nat} {v1 : Int32} {v3 : Int32} {s0 : Int32} {h : sn_H} {Q : Option Value → sn_H → Prop}
    (H1 : wpE 150 38 [some (.ref v0), some (.int v1), none, some (.int v3), some (.int (s0 - nI 1)), none, none] [] h (0, 0) Q) :
    wpE 150 34 [some (.ref v0), some (.int v1), none, some (.int v3), none, none, none] [.int s0] h (0, 0) Q :=
  vc_s (ct := fun pc => Nat.beq pc 22 || Nat.beq pc 38 || Nat.beq pc 63) 1000 false (And.intro (Nat.le_of_ble_eq_true rfl) H1)
/-- SnapshotRingsModel.findOrder from 38 -/
theorem r_M_findOrder_38 {v0 : Nat} {v1 : Int32} {v3 : Int32} {v4 : Int32} {q1 : Nat} {h : sn_H} {Q : Option Value → sn_H → Prop}
    (k1 : hK h v0 = (0, 5, 16))
    (k2 : hR h v0 9 = some q1)
    (H1 : v4 < 0 → v3 = -(nI 20006) → wpE 150 22 [some (.ref v0), some (.int v1), some (.int (nI 0)), none, none, none, none] [] h (0, 0) Q)
    (H2 : v4 < 0 → ¬ v3 = -(nI 20006) → wpE 124 0 [some (.ref v0), some (.int v3)] [] h (0, 0) (fun r hh => wpE 150 162 [some (.ref v0), some (.int v1), some (.int (nI 1)), some (.int v3), none, none, none] (r.toList ++ [.int (hG h v0 10), .ref q1]) hh (0, 0) Q))
    (H3 : ¬ v4 < 0 → ¬ ((v1 >>> (v4 &&& 31)) &&& nI 1) = nI 1 → wpE 150 63 [some (.ref v0), some (.int v1), none, some (.int v3), some (.int v4), some (.int (nI 0)), some (.int (nI 0))] [] h (0, 0) Q)
    (H4 : ¬ v4 < 0 → ((v1 >>> (v4 &&& 31)) &&& nI 1) = nI 1 → wpE 150 63 [some (.ref v0), some (.int v1), none, some (.int v3), some (.int v4), some (.int (nI 1)), some (.int (nI 0))] [] h (0, 0) Q) :
    wpE 150 38 [some (.ref v0), some (.int v1), none, some (.int v3), some (.int v4), none, none] [] h (0, 0) Q :=
  vc_s (ct := fun pc => Nat.beq pc 22 || Nat.beq pc 38 || Nat.beq pc 63) 1000 false (And.intro (fun c1 => (And.intro (fun c2 => (And.intro (Nat.le_of_ble_eq_true rfl) (And.intro (fun c3 => (@wpE_w _ _ [some (.ref v0), some (.int v1), some (.int (nI 0)), none, none, none, none] _ _ _ _ _ (show LeL [some (.ref v0), some (.int v1), some (.int (nI 0)), none, none, none, none] [some (.ref v0), some (.int v1), some (.int (nI 0)), some (.int v3), some (.int v4), none, none] from (And.intro rfl (And.intro rfl (And.intro rfl trivial)))) (H1 c1 c2))) (fun c3 => absurd c3 (by decide))))) (fun c4 => (And.intro (Nat.le_of_ble_eq_true rfl) (And.intro (fun c5 => absurd c5 (by decide)) (fun c5 => (And.intro k1 (Exists.intro q1 (And.intro k2 (And.intro k1 (And.intro k1 (And.intro (Nat.le_of_ble_eq_true rfl) (And.intro (Nat.le_of_ble_eq_true rfl) (And.intro (Nat.le_of_ble_eq_true rfl) (And.intro (Nat.le_of_ble_eq_true rfl) (wpE_m (fun _ _ HH => @wpE_w _ _ [some (.ref v0), some (.int v1), some (.int (nI 1)), some (.int v3), none, none, none] _ _ _ _ _ (show LeL [some (.ref v0), some (.int v1), some (.int (nI 1)), some (.int v3), none, none, none] [some (.ref v0), some (.int v1), some (.int (nI 1)), some (.int v3), some (.int v4), none, none] from (And.intro rfl (And.intro rfl (And.intro rfl (And.intro rfl trivial))))) HH) (H2 c1 c4))))))))))))))))) (fun c6 => (And.intro (fun c7 => (And.intro (Nat.le_of_ble_eq_true rfl) (And.intro (Nat.le_of_ble_eq_true rfl) (H3 c6 c7)))) (fun c8 => (And.intro (Nat.le_of_ble_eq_true rfl) (And.intro (Nat.le_of_ble_eq_true rfl) (H4 c6 c8)))))))
/-- SnapshotRingsModel.findOrder from 162 -/
theorem r_M_findOrder_162 {v0 : Nat} {v1 : Int32} {v2 : Int32} {v3 : Int32} {s0 : Nat} {s1 : Int32} {s2 : Int32} {n1 : Nat} {h : sn_H} {Q : Option Value → sn_H → Prop}
    (k1 : hK h s0 = (1, 0, n1))
    (k2 : hK h v0 = (0, 5, 16))
    (B1 : vp_in s1 n1)
    (H2 : wpE 150 22 [some (.ref v0), some (.int (v1 &&& ((nI 1 <<< (v3 &&& 31)) ^^^ -(nI 1)))), some (.int v2), none, none, none, none] [] (setG (setG h s0 s1.toNatClampNeg s2) v0 10 ((hG (setG h s0 s1.toNatClampNeg s2) v0 10) + nI 1)) (0, 0) Q) :
    wpE 150 162 [some (.ref v0), some (.int v1), some (.int v2), some (.int v3), none, none, none] [.int s2, .int s1, .ref s0] h (0, 0) Q :=
  vc_s (ct := fun pc => Nat.beq pc 22 || Nat.beq pc 38 || Nat.beq pc 63) 1000 false (Exists.intro n1 (And.intro k1 (And.intro B1 (And.intro rfl (And.intro k2 (And.intro k2 (And.intro rfl (And.intro (Nat.le_of_ble_eq_true rfl) (@wpE_w _ _ [some (.ref v0), some (.int (v1 &&& ((nI 1 <<< (v3 &&& 31)) ^^^ -(nI 1)))), some (.int v2), none, none, none, none] _ _ _ _ _ (show LeL [some (.ref v0), some (.int (v1 &&& ((nI 1 <<< (v3 &&& 31)) ^^^ -(nI 1)))), some (.int v2), none, none, none, none] [some (.ref v0), some (.int (v1 &&& ((nI 1 <<< (v3 &&& 31)) ^^^ -(nI 1)))), some (.int v2), some (.int v3), none, none, none] from (And.intro rfl (And.intro rfl (And.intro rfl trivial)))) H2)))))))))
/-- SnapshotRingsModel.findOrder from 63 -/
theorem r_M_findOrder_63 {v0 : Nat} {v1 : Int32} {v3 : Int32} {v4 : Int32} {v5 : Int32} {v6 : Int32} {h : sn_H} {Q : Option Value → sn_H → Prop}
    (k1 : hK h v0 = (0, 5, 16))
    (H1 : wpE 121 0 [some (.ref v0)] [] h (0, 0) (fun r hh => wpE 150 69 [some (.ref v0), some (.int v1), none, some (.int v3), some (.int v4), some (.int v5), some (.int v6)] (r.toList ++ [.int v6]) hh (0, 0) Q)) :
    wpE 150 63 [some (.ref v0), some (.int v1), none, some (.int v3), some (.int v4), some (.int v5), some (.int v6)] [] h (0, 0) Q :=
  vc_s (ct := fun pc => Nat.beq pc 22 || Nat.beq pc 38 || Nat.beq pc 63) 1000 false (And.intro k1 (And.intro (Nat.le_of_ble_eq_true rfl) (And.intro (Nat.le_of_ble_eq_true rfl) (And.intro (Nat.le_of_ble_eq_true rfl) (And.intro (Nat.le_of_ble_eq_true rfl) H1)))))
/-- SnapshotRingsModel.findOrder from 69 -/
theorem r_M_findOrder_69 {v0 : Nat} {v1 : Int32} {v3 : Int32} {v4 : Int32} {v5 : Int32} {v6 : Int32} {s0 : Int32} {s1 : Int32} {q1 : Nat} {n1 : Nat} {h : sn_H} {Q : Option Value → sn_H → Prop}
    (k1 : hK h v0 = (0, 5, 16))
    (k2 : hR h v0 7 = some q1)
    (k3 : hK h q1 = (1, 0, n1))
    (H1 : s1 ≤ s0 → v5 = 0 → wpE 150 38 [some (.ref v0), some (.int v1), none, some (.int v3), some (.int (v4 + -(nI 1))), none, none] [] h (0, 0) Q)
    (H2 : s1 ≤ s0 → ¬ v5 = 0 → wpE 150 38 [some (.ref v0), some (.int v1), none, some (.int v4), some (.int (v4 + -(nI 1))), none, none] [] h (0, 0) Q)
    (H3 : ¬ s1 ≤ s0 → v5 = 0 → wpE 150 63 [some (.ref v0), some (.int v1), none, some (.int v3), some (.int v4), some (.int (nI 0)), some (.int (v6 + nI 1))] [] h (0, 0) Q)
    (H4 : ¬ s1 ≤ s0 → ¬ v5 = 0 → ((v1 >>> (v6 &&& 31)) &&& nI 1) = 0 → wpE 150 63 [some (.ref v0), some (.int v1), none, some (.int v3), some (.int v4), some (.int (nI 1)), some (.int (v6 + nI 1))] [] h (0, 0) Q)
    (B5 : ¬ s1 ≤ s0 → ¬ v5 = 0 → ¬ ((v1 >>> (v6 &&& 31)) &&& nI 1) = 0 → vp_in v6 n1)
    (H6 : ¬ s1 ≤ s0 → ¬ v5 = 0 → ¬ ((v1 >>> (v6 &&& 31)) &&& nI 1) = 0 → ¬ (((hG h q1 v6.toNatClampNeg) >>> (v4 &&& 31)) &&& nI 1) = 0 → wpE 150 63 [some (.ref v0), some (.int v1), none, some (.int v3), some (.int v4), some (.int (nI 0)), some (.int (v6 + nI 1))] [] h (0, 0) Q)
    (H7 : ¬ s1 ≤ s0 → ¬ v5 = 0 → ¬ ((v1 >>> (v6 &&& 31)) &&& nI 1) = 0 → (((hG h q1 v6.toNatClampNeg) >>> (v4 &&& 31)) &&& nI 1) = 0 → wpE 150 63 [some (.ref v0), some (.int v1), none, some (.int v3), some (.int v4), some (.int (nI 1)), some (.int (v6 + nI 1))] [] h (0, 0) Q) :
    wpE 150 69 [some (.ref v0), some (.int v1), none, some (.int v3), some (.int v4), some (.int v5), some (.int v6)] [.int s1, .int s0] h (0, 0) Q :=
  vc_s (ct := fun pc => Nat.beq pc 22 || Nat.beq pc 38 || Nat.beq pc 63) 1000 false (And.intro (fun c1 => (And.intro (fun c2 => (And.intro (Nat.le_of_ble_eq_true rfl) (And.intro (Nat.le_of_ble_eq_true rfl) (@wpE_w _ _ [some (.ref v0), some (.int v1), none, some (.int v3), some (.int (v4 + -(nI 1))), none, none] _ _ _ _ _ (show LeL [some (.ref v0), some (.int v1), none, some (.int v3), some (.int (v4 + -(nI 1))), none, none] [some (.ref v0), some (.int v1), none, some (.int v3), some (.int (v4 + -(nI 1))), some (.int v5), some (.int v6)] from (And.intro rfl (And.intro rfl (And.intro rfl (And.intro rfl trivial))))) (H1 c1 c2))))) (fun c3 => (And.intro (Nat.le_of_ble_eq_true rfl) (And.intro (Nat.le_of_ble_eq_true rfl) (@wpE_w _ _ [some (.ref v0), some (.int v1), none, some (.int v4), some (.int (v4 + -(nI 1))), none, none] _ _ _ _ _ (show LeL [some (.ref v0), some (.int v1), none, some (.int v4), some (.int (v4 + -(nI 1))), none, none] [some (.ref v0), some (.int v1), none, some (.int v4), some (.int (v4 + -(nI 1))), some (.int v5), some (.int v6)] from (And.intro rfl (And.intro rfl (And.intro rfl (And.intro rfl trivial))))) (H2 c1 c3))))))) (fun c4 => (And.intro (fun c5 => (And.intro (Nat.le_of_ble_eq_true rfl) (And.intro (Nat.le_of_ble_eq_true rfl) (H3 c4 c5)))) (fun c6 => (And.intro (fun c7 => (And.intro (Nat.le_of_ble_eq_true rfl) (And.intro (Nat.le_of_ble_eq_true rfl) (H4 c4 c6 c7)))) (fun c8 => (And.intro k1 (Exists.intro q1 (And.intro k2 (Exists.intro 0 (Exists.intro n1 (And.intro k3 (And.intro (B5 c4 c6 c8) (And.intro (fun c9 => (And.intro (Nat.le_of_ble_eq_true rfl) (And.intro (Nat.le_of_ble_eq_true rfl) (H6 c4 c6 c8 c9)))) (fun c10 => (And.intro (Nat.le_of_ble_eq_true rfl) (And.intro (Nat.le_of_ble_eq_true rfl) (H7 c4 c6 c8 c10))))))))))))))))))
/-- SnapshotRingsModel.orderOf from 0 -/
theorem r_M_orderOf_0 {v0 : Nat} {v1 : Int32} {h : sn_H} {Q : Option Value → sn_H → Prop}
    (k1 : hK h v0 = (0, 5, 16))
    (H1 : wpE 121 0 [some (.ref v0)] [] h (0, 0) (fun r hh => wpE 151 8 [some (.ref v0), some (.int v1)] (r.toList ++ [.int (hG h v0 10)]) hh (0, 0) Q)) :
    wpE 151 0 [some (.ref v0), some (.int v1)] [] h (0, 0) Q :=
  vc_s (ct := fun _ => false) 1000 false (And.intro k1 (And.intro k1 (And.intro (Nat.le_of_ble_eq_true rfl) (And.intro (Nat.le_of_ble_eq_true rfl) (And.intro (Nat.le_of_ble_eq_true rfl) (And.intro (Nat.le_of_ble_eq_true rfl) H1))))))
/-- SnapshotRingsModel.orderOf from 8 -/
theorem r_M_orderOf_8 {v0 : Nat} {v1 : Int32} {s0 : Int32} {s1 : Int32} {q1 : Nat} {n1 : Nat} {h : sn_H} {Q : Option Value → sn_H → Prop}
    (k1 : hK h v0 = (0, 5, 16))
    (k2 : hR h v0 9 = some q1)
    (k3 : hK h q1 = (1, 0, n1))
    (H1 : ¬ s0 = s1 → Q (some (.int (-(nI 20006)))) h)
    (H2 : s0 = s1 → (hG h v0 10) ≤ v1 → Q (some (.int (-(nI 20006)))) h)
    (B3 : s0 = s1 → ¬ (hG h v0 10) ≤ v1 → vp_in v1 n1)
    (H4 : s0 = s1 → ¬ (hG h v0 10) ≤ v1 → Q (some (.int (hG h q1 v1.toNatClampNeg))) h) :
    wpE 151 8 [some (.ref v0), some (.int v1)] [.int s1, .int s0] h (0, 0) Q :=
  vc_s (ct := fun _ => false) 1000 false (And.intro (fun c1 => (H1 c1)) (fun c2 => (And.intro k1 (And.intro (fun c3 => (H2 c2 c3)) (fun c4 => (And.intro k1 (Exists.intro q1 (And.intro k2 (Exists.intro 0 (Exists.intro n1 (And.intro k3 (And.intro (B3 c2 c4) (H4 c2 c4)))))))))))))
/-- SnapshotRingsModel.orderAt from 0 -/
theorem r_M_orderAt_0 {v0 : Nat} {v1 : Int32} {h : sn_H} {Q : Option Value → sn_H → Prop}
    (k1 : hK h v0 = (0, 5, 16))
    (H1 : 0 ≤ v1 → wpE 150 0 [some (.ref v0), none, none, none, none, none, none] [] h (0, 0) (fun r hh => wpE 149 12 [some (.ref v0), some (.int v1)] (r.toList ++ []) hh (0, 0) Q))
    (H2 : ¬ 0 ≤ v1 → Q (some (.int (-(nI 20002)))) h) :
    wpE 149 0 [some (.ref v0), some (.int v1)] [] h (0, 0) Q :=
  vc_s (ct := fun _ => false) 1000 false (And.intro (fun c1 => (And.intro k1 (And.intro (Nat.le_of_ble_eq_true rfl) (And.intro (Nat.le_of_ble_eq_true rfl) (And.intro (Nat.le_of_ble_eq_true rfl) (And.intro (Nat.le_of_ble_eq_true rfl) (H1 c1))))))) (fun c2 => (H2 c2)))
/-- SnapshotRingsModel.orderAt from 12 -/
theorem r_M_orderAt_12 {v0 : Nat} {v1 : Int32} {h : sn_H} {Q : Option Value → sn_H → Prop}
    (k1 : hK h v0 = (0, 5, 16))
    (H1 : wpE 151 0 [some (.ref v0), some (.int v1)] [] h (0, 0) (fun r hh => wpE 149 17 [none, none] (r.toList ++ []) hh (0, 0) Q)) :
    wpE 149 12 [some (.ref v0), some (.int v1)] [] h (0, 0) Q :=
  vc_s (ct := fun _ => false) 1000 false (And.intro k1 (And.intro (Nat.le_of_ble_eq_true rfl) (And.intro (Nat.le_of_ble_eq_true rfl) (And.intro (Nat.le_of_ble_eq_true rfl) (And.intro (Nat.le_of_ble_eq_true rfl) (wpE_m (fun _ _ HH => @wpE_w _ _ [none, none] _ _ _ _ _ (show LeL [none, none] [some (.ref v0), some (.int v1)] from trivial) HH) H1))))))
/-- SnapshotRingsModel.orderAt from 17 -/
theorem r_M_orderAt_17 {s0 : Int32} {h : sn_H} {Q : Option Value → sn_H → Prop}
    (H1 : Q (some (.int s0)) h) :
    wpE 149 17 [none, none] [.int s0] h (0, 0) Q :=
  vc_s (ct := fun _ => false) 1000 false H1
/-- SnapshotRingsModel.skews from 0 -/
theorem r_M_skews_0 {v0 : Nat} {h : sn_H} {Q : Option Value → sn_H → Prop}
    (k1 : hK h v0 = (0, 5, 16))
    (H1 : wpE 148 0 [some (.ref v0), some (.int (nI 4))] [] h (0, 0) (fun r hh => wpE 152 5 [some (.ref v0), none, none, none] (r.toList ++ []) hh (0, 0) Q)) :
    wpE 152 0 [some (.ref v0), none, none, none] [] h (0, 0) Q :=
  vc_s (ct := fun pc => Nat.beq pc 9 || Nat.beq pc 21) 1000 false (And.intro k1 (And.intro (Nat.le_of_ble_eq_true rfl) (And.intro (Nat.le_of_ble_eq_true rfl) (And.intro (Nat.le_of_ble_eq_true rfl) (And.intro (Nat.le_of_ble_eq_true rfl) H1)))))
/-- SnapshotRingsModel.skews from 5 -/
theorem r_M_skews_5 {v0 : Nat} {h : sn_H} {Q : Option Value → sn_H → Prop}
    (H1 : wpE 152 9 [some (.ref v0), some (.int (nI 0)), some (.int (nI 0)), none] [] h (0, 0) Q) :
    wpE 152 5 [some (.ref v0), none, none, none] [] h (0, 0) Q :=
  vc_s (ct := fun pc => Nat.beq pc 9 || Nat.beq pc 21) 1000 false (And.intro (Nat.le_of_ble_eq_true rfl) (And.intro (Nat.le_of_ble_eq_true rfl) H1))
/-- SnapshotRingsModel.skews from 9 -/
theorem r_M_skews_9 {v0 : Nat} {v1 : Int32} {v2 : Int32} {h : sn_H} {Q : Option Value → sn_H → Prop}
    (k1 : hK h v0 = (0, 5, 16))
    (H1 : wpE 121 0 [some (.ref v0)] [] h (0, 0) (fun r hh => wpE 152 14 [some (.ref v0), some (.int v1), some (.int v2), none] (r.toList ++ [.int v2]) hh (0, 0) Q)) :
    wpE 152 9 [some (.ref v0), some (.int v1), some (.int v2), none] [] h (0, 0) Q :=
  vc_s (ct := fun pc => Nat.beq pc 9 || Nat.beq pc 21) 1000 false (And.intro k1 (And.intro (Nat.le_of_ble_eq_true rfl) (And.intro (Nat.le_of_ble_eq_true rfl) (And.intro (Nat.le_of_ble_eq_true rfl) (And.intro (Nat.le_of_ble_eq_true rfl) H1)))))
/-- SnapshotRingsModel.skews from 14 -/
theorem r_M_skews_14 {v0 : Nat} {v1 : Int32} {v2 : Int32} {s0 : Int32} {s1 : Int32} {h : sn_H} {Q : Option Value → sn_H → Prop}
    (H1 : s1 ≤ s0 → Q (some (.int v1)) h)
    (H2 : ¬ s1 ≤ s0 → wpE 152 21 [some (.ref v0), some (.int v1), some (.int v2), some (.int (v2 + nI 1))] [] h (0, 0) Q) :
    wpE 152 14 [some (.ref v0), some (.int v1), some (.int v2), none] [.int s1, .int s0] h (0, 0) Q :=
  vc_s (ct := fun pc => Nat.beq pc 9 || Nat.beq pc 21) 1000 false (And.intro (fun c1 => (H1 c1)) (fun c2 => (And.intro (Nat.le_of_ble_eq_true rfl) (H2 c2))))
/-- SnapshotRingsModel.skews from 21 -/
theorem r_M_skews_21 {v0 : Nat} {v1 : Int32} {v2 : Int32} {v3 : Int32} {h : sn_H} {Q : Option Value → sn_H → Prop}
    (k1 : hK h v0 = (0, 5, 16))
    (H1 : wpE 121 0 [some (.ref v0)] [] h (0, 0) (fun r hh => wpE 152 26 [some (.ref v0), some (.int v1), some (.int v2), some (.int v3)] (r.toList ++ [.int v3]) hh (0, 0) Q)) :
    wpE 152 21 [some (.ref v0), some (.int v1), some (.int v2), some (.int v3)] [] h (0, 0) Q :=
  vc_s (ct := fun pc => Nat.beq pc 9 || Nat.beq pc 21) 1000 false (And.intro k1 (And.intro (Nat.le_of_ble_eq_true rfl) (And.intro (Nat.le_of_ble_eq_true rfl) (And.intro (Nat.le_of_ble_eq_true rfl) (And.intro (Nat.le_of_ble_eq_true rfl) H1)))))
/-- SnapshotRingsModel.skews from 26 -/
theorem r_M_skews_26 {v0 : Nat} {v1 : Int32} {v2 : Int32} {v3 : Int32} {s0 : Int32} {s1 : Int32} {q1 : Nat} {n1 : Nat} {h : sn_H} {Q : Option Value → sn_H → Prop}
    (k1 : hK h v0 = (0, 5, 16))
    (k2 : hR h v0 7 = some q1)
    (k3 : hK h q1 = (1, 0, n1))
    (H1 : s1 ≤ s0 → wpE 152 9 [some (.ref v0), some (.int v1), some (.int (v2 + nI 1)), none] [] h (0, 0) Q)
    (B2 : ¬ s1 ≤ s0 → vp_in v2 n1)
    (H3 : ¬ s1 ≤ s0 → ¬ (((hG h q1 v2.toNatClampNeg) >>> (v3 &&& 31)) &&& nI 1) = nI 1 → wpE 152 21 [some (.ref v0), some (.int (v1 + nI 0)), some (.int v2), some (.int (v3 + nI 1))] [] h (0, 0) Q)
    (B4 : ¬ s1 ≤ s0 → (((hG h q1 v2.toNatClampNeg) >>> (v3 &&& 31)) &&& nI 1) = nI 1 → vp_in v3 n1)
    (H5 : ¬ s1 ≤ s0 → (((hG h q1 v2.toNatClampNeg) >>> (v3 &&& 31)) &&& nI 1) = nI 1 → ¬ (((hG h q1 v3.toNatClampNeg) >>> (v2 &&& 31)) &&& nI 1) = nI 1 → wpE 152 21 [some (.ref v0), some (.int (v1 + nI 0)), some (.int v2), some (.int (v3 + nI 1))] [] h (0, 0) Q)
    (H6 : ¬ s1 ≤ s0 → (((hG h q1 v2.toNatClampNeg) >>> (v3 &&& 31)) &&& nI 1) = nI 1 → (((hG h q1 v3.toNatClampNeg) >>> (v2 &&& 31)) &&& nI 1) = nI 1 → wpE 152 21 [some (.ref v0), some (.int (v1 + nI 1)), some (.int v2), some (.int (v3 + nI 1))] [] h (0, 0) Q) :
    wpE 152 26 [some (.ref v0), some (.int v1), some (.int v2), some (.int v3)] [.int s1, .int s0] h (0, 0) Q :=
  vc_s (ct := fun pc => Nat.beq pc 9 || Nat.beq pc 21) 1000 false (And.intro (fun c1 => (And.intro (Nat.le_of_ble_eq_true rfl) (@wpE_w _ _ [some (.ref v0), some (.int v1), some (.int (v2 + nI 1)), none] _ _ _ _ _ (show LeL [some (.ref v0), some (.int v1), some (.int (v2 + nI 1)), none] [some (.ref v0), some (.int v1), some (.int (v2 + nI 1)), some (.int v3)] from (And.intro rfl (And.intro rfl (And.intro rfl trivial)))) (H1 c1)))) (fun c2 => (And.intro k1 (Exists.intro q1 (And.intro k2 (Exists.intro 0 (Exists.intro n1 (And.intro k3 (And.intro (B2 c2) (And.intro (fun c3 => (And.intro (Nat.le_of_ble_eq_true rfl) (And.intro (Nat.le_of_ble_eq_true rfl) (H3 c2 c3)))) (fun c4 => (And.intro k1 (Exists.intro q1 (And.intro k2 (Exists.intro 0 (Exists.intro n1 (And.intro k3 (And.intro (B4 c2 c4) (And.intro (fun c5 => (And.intro (Nat.le_of_ble_eq_true rfl) (And.intro (Nat.le_of_ble_eq_true rfl) (H5 c2 c4 c5)))) (fun c6 => (And.intro (Nat.le_of_ble_eq_true rfl) (And.intro (Nat.le_of_ble_eq_true rfl) (H6 c2 c4 c6)))))))))))))))))))))))
/-- SnapshotRingsModel.isHeld from 0 -/
theorem r_M_isHeld_0 {v0 : Nat} {v1 : Int32} {h : sn_H} {Q : Option Value → sn_H → Prop}
    (H1 : wpE 154 4 [some (.ref v0), some (.int v1), some (.int (nI 0)), some (.int (nI 0))] [] h (0, 0) Q) :
    wpE 154 0 [some (.ref v0), some (.int v1), none, none] [] h (0, 0) Q :=
  vc_s (ct := fun pc => Nat.beq pc 4) 1000 false (And.intro (Nat.le_of_ble_eq_true rfl) (And.intro (Nat.le_of_ble_eq_true rfl) H1))
/-- SnapshotRingsModel.isHeld from 4 -/
theorem r_M_isHeld_4 {v0 : Nat} {v1 : Int32} {v2 : Int32} {v3 : Int32} {q1 : Nat} {n1 : Nat} {h : sn_H} {Q : Option Value → sn_H → Prop}
    (k1 : hK h v0 = (0, 5, 16))
    (k2 : hR h v0 0 = some q1)
    (k3 : hK h q1 = (1, 0, n1))
    (B1 : nI 12 ≤ v3 → vp_in ((nI 6 + (nI 2 * v1)) + nI 1) n1)
    (H2 : nI 12 ≤ v3 → v2 < (hG h q1 ((nI 6 + (nI 2 * v1)) + nI 1).toNatClampNeg) → Q (some (.int (nI 0))) h)
    (H3 : nI 12 ≤ v3 → ¬ v2 < (hG h q1 ((nI 6 + (nI 2 * v1)) + nI 1).toNatClampNeg) → Q (some (.int (nI 1))) h)
    (B4 : ¬ nI 12 ≤ v3 → vp_in (nI 6 + (nI 2 * v1)) n1)
    (H5 : ¬ nI 12 ≤ v3 → ¬ (((hG h q1 (nI 6 + (nI 2 * v1)).toNatClampNeg) >>> (v3 &&& 31)) &&& nI 1) = nI 1 → wpE 154 4 [some (.ref v0), some (.int v1), some (.int (v2 + nI 0)), some (.int (v3 + nI 1))] [] h (0, 0) Q)
    (B6 : ¬ nI 12 ≤ v3 → (((hG h q1 (nI 6 + (nI 2 * v1)).toNatClampNeg) >>> (v3 &&& 31)) &&& nI 1) = nI 1 → vp_in (nI 12 + v3) n1)
    (H7 : ¬ nI 12 ≤ v3 → (((hG h q1 (nI 6 + (nI 2 * v1)).toNatClampNeg) >>> (v3 &&& 31)) &&& nI 1) = nI 1 → wpE 154 4 [some (.ref v0), some (.int v1), some (.int (v2 + (hG h q1 (nI 12 + v3).toNatClampNeg))), some (.int (v3 + nI 1))] [] h (0, 0) Q) :
    wpE 154 4 [some (.ref v0), some (.int v1), some (.int v2), some (.int v3)] [] h (0, 0) Q :=
  vc_s (ct := fun pc => Nat.beq pc 4) 1000 false (And.intro (fun c1 => (And.intro k1 (Exists.intro q1 (And.intro k2 (Exists.intro 0 (Exists.intro n1 (And.intro k3 (And.intro (B1 c1) (And.intro (fun c2 => (H2 c1 c2)) (fun c3 => (H3 c1 c3))))))))))) (fun c4 => (And.intro k1 (Exists.intro q1 (And.intro k2 (Exists.intro 0 (Exists.intro n1 (And.intro k3 (And.intro (B4 c4) (And.intro (fun c5 => (And.intro (Nat.le_of_ble_eq_true rfl) (And.intro (Nat.le_of_ble_eq_true rfl) (H5 c4 c5)))) (fun c6 => (And.intro k1 (Exists.intro q1 (And.intro k2 (Exists.intro 0 (Exists.intro n1 (And.intro k3 (And.intro (B6 c4 c6) (And.intro (Nat.le_of_ble_eq_true rfl) (And.intro (Nat.le_of_ble_eq_true rfl) (H7 c4 c6)))))))))))))))))))))
/-- SnapshotRingsModel.holds from 0 -/
theorem r_M_holds_0 {v0 : Nat} {v1 : Int32} {h : sn_H} {Q : Option Value → sn_H → Prop}
    (k1 : hK h v0 = (0, 5, 16))
    (H1 : v1 < (nI 0) → Q (some (.int (-(nI 20001)))) h)
    (H2 : ¬ v1 < (nI 0) → (nI 2) < v1 → Q (some (.int (-(nI 20001)))) h)
    (H3 : ¬ v1 < (nI 0) → ¬ (nI 2) < v1 → wpE 154 0 [some (.ref v0), some (.int v1), none, none] [] h (0, 0) (fun r hh => wpE 153 12 [none, none] (r.toList ++ []) hh (0, 0) Q)) :
    wpE 153 0 [some (.ref v0), some (.int v1)] [] h (0, 0) Q :=
  vc_s (ct := fun _ => false) 1000 false (And.intro (Nat.le_of_ble_eq_true rfl) (And.intro (Nat.le_of_ble_eq_true rfl) (And.intro (Nat.le_of_ble_eq_true rfl) (And.intro (Nat.le_of_ble_eq_true rfl) (r_M_isConstraint_0 (v0 := v1) (h := h) (fun c1 => (vc_s (ct := fun _ => false) 1000 false (And.intro (fun c2 => (H1 c1)) (fun c2 => absurd c2 (by decide))))) (fun c3 c4 => (vc_s (ct := fun _ => false) 1000 false (And.intro (fun c5 => (H2 c3 c4)) (fun c5 => absurd c5 (by decide))))) (fun c6 c7 => (vc_s (ct := fun _ => false) 1000 false (And.intro (fun c8 => absurd c8 (by decide)) (fun c8 => (And.intro k1 (And.intro (Nat.le_of_ble_eq_true rfl) (And.intro (Nat.le_of_ble_eq_true rfl) (And.intro (Nat.le_of_ble_eq_true rfl) (And.intro (Nat.le_of_ble_eq_true rfl) (wpE_m (fun _ _ HH => @wpE_w _ _ [none, none] _ _ _ _ _ (show LeL [none, none] [some (.ref v0), some (.int v1)] from trivial) HH) (H3 c6 c7))))))))))))))))
/-- SnapshotRingsModel.holds from 12 -/
theorem r_M_holds_12 {s0 : Int32} {h : sn_H} {Q : Option Value → sn_H → Prop}
    (H1 : Q (some (.int s0)) h) :
    wpE 153 12 [none, none] [.int s0] h (0, 0) Q :=
  vc_s (ct := fun _ => false) 1000 false H1
/-- SnapshotRingsModel.isHeldFor from 0 -/
theorem r_M_isHeldFor_0 {v0 : Nat} {v1 : Int32} {v2 : Int32} {h : sn_H} {Q : Option Value → sn_H → Prop}
    (H1 : wpE 156 5 [some (.ref v0), some (.int v1), some (.int v2), some (.int (nI 0)), some (.int (nI 0)), none] [] h (0, 0) Q) :
    wpE 156 0 [some (.ref v0), some (.int v1), some (.int v2), none, none, none] [] h (0, 0) Q :=
  vc_s (ct := fun pc => Nat.beq pc 5) 1000 false (And.intro (Nat.le_of_ble_eq_true rfl) (And.intro (Nat.le_of_ble_eq_true rfl) H1))
/-- SnapshotRingsModel.isHeldFor from 5 -/
theorem r_M_isHeldFor_5 {v0 : Nat} {v1 : Int32} {v2 : Int32} {v3 : Int32} {v4 : Int32} {q1 : Nat} {n1 : Nat} {h : sn_H} {Q : Option Value → sn_H → Prop}
    (k1 : hK h v0 = (0, 5, 16))
    (k2 : hR h v0 0 = some q1)
    (k3 : hK h q1 = (1, 0, n1))
    (B1 : nI 12 ≤ v4 → vp_in ((nI 6 + (nI 2 * v2)) + nI 1) n1)
    (H2 : nI 12 ≤ v4 → v3 < (hG h q1 ((nI 6 + (nI 2 * v2)) + nI 1).toNatClampNeg) → Q (some (.int (nI 0))) h)
    (H3 : nI 12 ≤ v4 → ¬ v3 < (hG h q1 ((nI 6 + (nI 2 * v2)) + nI 1).toNatClampNeg) → Q (some (.int (nI 1))) h)
    (B4 : ¬ nI 12 ≤ v4 → vp_in ((nI 36 + (nI 40 * v1)) + (nI 2)) n1)
    (B5 : ¬ nI 12 ≤ v4 → ¬ (((hG h q1 ((nI 36 + (nI 40 * v1)) + (nI 2)).toNatClampNeg) >>> (v4 &&& 31)) &&& nI 1) = nI 1 → vp_in ((nI 36 + (nI 40 * v1)) + (nI 15 + v4)) n1)
    (B6 : ¬ nI 12 ≤ v4 → ¬ (((hG h q1 ((nI 36 + (nI 40 * v1)) + (nI 2)).toNatClampNeg) >>> (v4 &&& 31)) &&& nI 1) = nI 1 → vp_in (nI 6 + (nI 2 * v2)) n1)
    (H7 : ¬ nI 12 ≤ v4 → ¬ (((hG h q1 ((nI 36 + (nI 40 * v1)) + (nI 2)).toNatClampNeg) >>> (v4 &&& 31)) &&& nI 1) = nI 1 → ¬ (((hG h q1 (nI 6 + (nI 2 * v2)).toNatClampNeg) >>> (v4 &&& 31)) &&& nI 1) = nI 1 → wpE 156 5 [some (.ref v0), some (.int v1), some (.int v2), some (.int (v3 + nI 0)), some (.int (v4 + nI 1)), none] [] h (0, 0) Q)
    (H8 : ¬ nI 12 ≤ v4 → ¬ (((hG h q1 ((nI 36 + (nI 40 * v1)) + (nI 2)).toNatClampNeg) >>> (v4 &&& 31)) &&& nI 1) = nI 1 → (((hG h q1 (nI 6 + (nI 2 * v2)).toNatClampNeg) >>> (v4 &&& 31)) &&& nI 1) = nI 1 → wpE 156 5 [some (.ref v0), some (.int v1), some (.int v2), some (.int (v3 + (hG h q1 ((nI 36 + (nI 40 * v1)) + (nI 15 + v4)).toNatClampNeg))), some (.int (v4 + nI 1)), none] [] h (0, 0) Q)
    (B9 : ¬ nI 12 ≤ v4 → (((hG h q1 ((nI 36 + (nI 40 * v1)) + (nI 2)).toNatClampNeg) >>> (v4 &&& 31)) &&& nI 1) = nI 1 → vp_in ((nI 36 + (nI 40 * v1)) + (nI 27 + v4)) n1)
    (B10 : ¬ nI 12 ≤ v4 → (((hG h q1 ((nI 36 + (nI 40 * v1)) + (nI 2)).toNatClampNeg) >>> (v4 &&& 31)) &&& nI 1) = nI 1 → vp_in (nI 6 + (nI 2 * v2)) n1)
    (H11 : ¬ nI 12 ≤ v4 → (((hG h q1 ((nI 36 + (nI 40 * v1)) + (nI 2)).toNatClampNeg) >>> (v4 &&& 31)) &&& nI 1) = nI 1 → ¬ (((hG h q1 (nI 6 + (nI 2 * v2)).toNatClampNeg) >>> (v4 &&& 31)) &&& nI 1) = nI 1 → wpE 156 5 [some (.ref v0), some (.int v1), some (.int v2), some (.int (v3 + nI 0)), some (.int (v4 + nI 1)), none] [] h (0, 0) Q)
    (H12 : ¬ nI 12 ≤ v4 → (((hG h q1 ((nI 36 + (nI 40 * v1)) + (nI 2)).toNatClampNeg) >>> (v4 &&& 31)) &&& nI 1) = nI 1 → (((hG h q1 (nI 6 + (nI 2 * v2)).toNatClampNeg) >>> (v4 &&& 31)) &&& nI 1) = nI 1 → wpE 156 5 [some (.ref v0), some (.int v1), some (.int v2), some (.int (v3 + (hG h q1 ((nI 36 + (nI 40 * v1)) + (nI 27 + v4)).toNatClampNeg))), some (.int (v4 + nI 1)), none] [] h (0, 0) Q) :
    wpE 156 5 [some (.ref v0), some (.int v1), some (.int v2), some (.int v3), some (.int v4), none] [] h (0, 0) Q :=
  vc_s (ct := fun pc => Nat.beq pc 5) 1000 false (And.intro (fun c1 => (And.intro k1 (Exists.intro q1 (And.intro k2 (Exists.intro 0 (Exists.intro n1 (And.intro k3 (And.intro (B1 c1) (And.intro (fun c2 => (H2 c1 c2)) (fun c3 => (H3 c1 c3))))))))))) (fun c4 => (And.intro k1 (And.intro (Nat.le_of_ble_eq_true rfl) (And.intro (Nat.le_of_ble_eq_true rfl) (And.intro (Nat.le_of_ble_eq_true rfl) (And.intro (Nat.le_of_ble_eq_true rfl) (r_M_slotPart_0 (v0 := v0) (v1 := v1) (v2 := (nI 2)) (q1 := q1) (n1 := n1) (h := h) k1 k2 k3 ((B4 c4)) ((vc_s (ct := fun pc => Nat.beq pc 5) 1000 false (And.intro (fun c5 => (And.intro k1 (And.intro (Nat.le_of_ble_eq_true rfl) (And.intro (Nat.le_of_ble_eq_true rfl) (And.intro (Nat.le_of_ble_eq_true rfl) (And.intro (Nat.le_of_ble_eq_true rfl) (r_M_slotPart_0 (v0 := v0) (v1 := v1) (v2 := (nI 15 + v4)) (q1 := q1) (n1 := n1) (h := h) k1 k2 k3 ((B5 c4 c5)) ((vc_s (ct := fun pc => Nat.beq pc 5) 1000 false (And.intro (Nat.le_of_ble_eq_true rfl) (And.intro k1 (Exists.intro q1 (And.intro k2 (Exists.intro 0 (Exists.intro n1 (And.intro k3 (And.intro (B6 c4 c5) (And.intro (fun c6 => (And.intro (Nat.le_of_ble_eq_true rfl) (And.intro (Nat.le_of_ble_eq_true rfl) (@wpE_w _ _ [some (.ref v0), some (.int v1), some (.int v2), some (.int (v3 + nI 0)), some (.int (v4 + nI 1)), none] _ _ _ _ _ (show LeL [some (.ref v0), some (.int v1), some (.int v2), some (.int (v3 + nI 0)), some (.int (v4 + nI 1)), none] [some (.ref v0), some (.int v1), some (.int v2), some (.int (v3 + nI 0)), some (.int (v4 + nI 1)), some (.int (hG h q1 ((nI 36 + (nI 40 * v1)) + (nI 15 + v4)).toNatClampNeg))] from (And.intro rfl (And.intro rfl (And.intro rfl (And.intro rfl (And.intro rfl trivial)))))) (H7 c4 c5 c6))))) (fun c7 => (And.intro (Nat.le_of_ble_eq_true rfl) (And.intro (Nat.le_of_ble_eq_true rfl) (@wpE_w _ _ [some (.ref v0), some (.int v1), some (.int v2), some (.int (v3 + (hG h q1 ((nI 36 + (nI 40 * v1)) + (nI 15 + v4)).toNatClampNeg))), some (.int (v4 + nI 1)), none] _ _ _ _ _ (show LeL [some (.ref v0), some (.int v1), some (.int v2), some (.int (v3 + (hG h q1 ((nI 36 + (nI 40 * v1)) + (nI 15 + v4)).toNatClampNeg))), some (.int (v4 + nI 1)), none] [some (.ref v0), some (.int v1), some (.int v2), some (.int (v3 + (hG h q1 ((nI 36 + (nI 40 * v1)) + (nI 15 + v4)).toNatClampNeg))), some (.int (v4 + nI 1)), some (.int (hG h q1 ((nI 36 + (nI 40 * v1)) + (nI 15 + v4)).toNatClampNeg))] from (And.intro rfl (And.intro rfl (And.intro rfl (And.intro rfl (And.intro rfl trivial)))))) (H8 c4 c5 c7))))))))))))))))))))))) (fun c8 => (And.intro k1 (And.intro (Nat.le_of_ble_eq_true rfl) (And.intro (Nat.le_of_ble_eq_true rfl) (And.intro (Nat.le_of_ble_eq_true rfl) (And.intro (Nat.le_of_ble_eq_true rfl) (r_M_slotPart_0 (v0 := v0) (v1 := v1) (v2 := (nI 27 + v4)) (q1 := q1) (n1 := n1) (h := h) k1 k2 k3 ((B9 c4 c8)) ((vc_s (ct := fun pc => Nat.beq pc 5) 1000 false (And.intro (Nat.le_of_ble_eq_true rfl) (And.intro k1 (Exists.intro q1 (And.intro k2 (Exists.intro 0 (Exists.intro n1 (And.intro k3 (And.intro (B10 c4 c8) (And.intro (fun c9 => (And.intro (Nat.le_of_ble_eq_true rfl) (And.intro (Nat.le_of_ble_eq_true rfl) (@wpE_w _ _ [some (.ref v0), some (.int v1), some (.int v2), some (.int (v3 + nI 0)), some (.int (v4 + nI 1)), none] _ _ _ _ _ (show LeL [some (.ref v0), some (.int v1), some (.int v2), some (.int (v3 + nI 0)), some (.int (v4 + nI 1)), none] [some (.ref v0), some (.int v1), some (.int v2), some (.int (v3 + nI 0)), some (.int (v4 + nI 1)), some (.int (hG h q1 ((nI 36 + (nI 40 * v1)) + (nI 27 + v4)).toNatClampNeg))] from (And.intro rfl (And.intro rfl (And.intro rfl (And.intro rfl (And.intro rfl trivial)))))) (H11 c4 c8 c9))))) (fun c10 => (And.intro (Nat.le_of_ble_eq_true rfl) (And.intro (Nat.le_of_ble_eq_true rfl) (@wpE_w _ _ [some (.ref v0), some (.int v1), some (.int v2), some (.int (v3 + (hG h q1 ((nI 36 + (nI 40 * v1)) + (nI 27 + v4)).toNatClampNeg))), some (.int (v4 + nI 1)), none] _ _ _ _ _ (show LeL [some (.ref v0), some (.int v1), some (.int v2), some (.int (v3 + (hG h q1 ((nI 36 + (nI 40 * v1)) + (nI 27 + v4)).toNatClampNeg))), some (.int (v4 + nI 1)), none] [some (.ref v0), some (.int v1), some (.int v2), some (.int (v3 + (hG h q1 ((nI 36 + (nI 40 * v1)) + (nI 27 + v4)).toNatClampNeg))), some (.int (v4 + nI 1)), some (.int (hG h q1 ((nI 36 + (nI 40 * v1)) + (nI 27 + v4)).toNatClampNeg))] from (And.intro rfl (And.intro rfl (And.intro rfl (And.intro rfl (And.intro rfl trivial)))))) (H12 c4 c8 c10))))))))))))))))))))))))))))))))))
/-- SnapshotRingsModel.holdsFor from 0 -/
theorem r_M_holdsFor_0 {v0 : Nat} {v1 : Int32} {v2 : Int32} {q1 : Nat} {n1 : Nat} {h : sn_H} {Q : Option Value → sn_H → Prop}
    (k1 : hK h v0 = (0, 5, 16))
    (k2 : hR h v0 0 = some q1)
    (k3 : hK h q1 = (1, 0, n1))
    (H1 : v1 < (nI 0) → Q (some (.int (-(nI 20001)))) h)
    (H2 : ¬ v1 < (nI 0) → (nI 7) < v1 → Q (some (.int (-(nI 20001)))) h)
    (B3 : ¬ v1 < (nI 0) → ¬ (nI 7) < v1 → vp_in ((nI 36 + (nI 40 * v1)) + (nI 39)) n1)
    (H4 : ¬ v1 < (nI 0) → ¬ (nI 7) < v1 → ¬ (hG h q1 ((nI 36 + (nI 40 * v1)) + (nI 39)).toNatClampNeg) = nI 1 → Q (some (.int (-(nI 20001)))) h)
    (H5 : ¬ v1 < (nI 0) → ¬ (nI 7) < v1 → (hG h q1 ((nI 36 + (nI 40 * v1)) + (nI 39)).toNatClampNeg) = nI 1 → v2 < (nI 0) → Q (some (.int (-(nI 20001)))) h)
    (H6 : ¬ v1 < (nI 0) → ¬ (nI 7) < v1 → (hG h q1 ((nI 36 + (nI 40 * v1)) + (nI 39)).toNatClampNeg) = nI 1 → ¬ v2 < (nI 0) → (nI 2) < v2 → Q (some (.int (-(nI 20001)))) h)
    (H7 : ¬ v1 < (nI 0) → ¬ (nI 7) < v1 → (hG h q1 ((nI 36 + (nI 40 * v1)) + (nI 39)).toNatClampNeg) = nI 1 → ¬ v2 < (nI 0) → ¬ (nI 2) < v2 → wpE 156 0 [some (.ref v0), some (.int v1), some (.int v2), none, none, none] [] h (0, 0) (fun r hh => wpE 155 21 [none, none, none] (r.toList ++ []) hh (0, 0) Q)) :
    wpE 155 0 [some (.ref v0), some (.int v1), some (.int v2)] [] h (0, 0) Q :=
  vc_s (ct := fun _ => false) 1000 false (And.intro k1 (And.intro (Nat.le_of_ble_eq_true rfl) (And.intro (Nat.le_of_ble_eq_true rfl) (And.intro (Nat.le_of_ble_eq_true rfl) (And.intro (Nat.le_of_ble_eq_true rfl) (r_M_isOpen_0 (v0 := v0) (v1 := v1) (q1 := q1) (n1 := n1) (h := h) k1 k2 k3 (fun c1 => (vc_s (ct := fun _ => false) 1000 false (And.intro (fun c2 => (H1 c1)) (fun c2 => absurd c2 (by decide))))) (fun c3 c4 => (vc_s (ct := fun _ => false) 1000 false (And.intro (fun c5 => (H2 c3 c4)) (fun c5 => absurd c5 (by decide))))) (fun c6 c7 => (B3 c6 c7)) (fun c8 c9 c10 => (vc_s (ct := fun _ => false) 1000 false (And.intro (fun c11 => (H4 c8 c9 c10)) (fun c11 => absurd c11 (by decide))))) (fun c12 c13 c14 => (vc_s (ct := fun _ => false) 1000 false (And.intro (fun c15 => absurd c15 (by decide)) (fun c15 => (And.intro (Nat.le_of_ble_eq_true rfl) (And.intro (Nat.le_of_ble_eq_true rfl) (And.intro (Nat.le_of_ble_eq_true rfl) (And.intro (Nat.le_of_ble_eq_true rfl) (r_M_isConstraint_0 (v0 := v2) (h := h) (fun c16 => (vc_s (ct := fun _ => false) 1000 false (And.intro (fun c17 => (H5 c12 c13 c14 c16)) (fun c17 => absurd c17 (by decide))))) (fun c18 c19 => (vc_s (ct := fun _ => false) 1000 false (And.intro (fun c20 => (H6 c12 c13 c14 c18 c19)) (fun c20 => absurd c20 (by decide))))) (fun c21 c22 => (vc_s (ct := fun _ => false) 1000 false (And.intro (fun c23 => absurd c23 (by decide)) (fun c23 => (And.intro k1 (And.intro (Nat.le_of_ble_eq_true rfl) (And.intro (Nat.le_of_ble_eq_true rfl) (And.intro (Nat.le_of_ble_eq_true rfl) (And.intro (Nat.le_of_ble_eq_true rfl) (wpE_m (fun _ _ HH => @wpE_w _ _ [none, none, none] _ _ _ _ _ (show LeL [none, none, none] [some (.ref v0), some (.int v1), some (.int v2)] from trivial) HH) (H7 c12 c13 c14 c21 c22))))))))))))))))))))))))))
/-- SnapshotRingsModel.holdsFor from 21 -/
theorem r_M_holdsFor_21 {s0 : Int32} {h : sn_H} {Q : Option Value → sn_H → Prop}
    (H1 : Q (some (.int s0)) h) :
    wpE 155 21 [none, none, none] [.int s0] h (0, 0) Q :=
  vc_s (ct := fun _ => false) 1000 false H1
/-- SnapshotRingsModel.ifAllCommitted from 0 -/
theorem r_M_ifAllCommitted_0 {v0 : Nat} {q1 : Nat} {q2 : Nat} {h : sn_H} {Q : Option Value → sn_H → Prop}
    (k1 : hK h v0 = (0, 5, 16))
    (k2 : hR h v0 0 = some q1)
    (k3 : hR h v0 1 = some q2)
    (H1 : wpE 101 0 [some (.ref q1), some (.int (nI 0)), some (.ref q2), some (.int (nI 0)), none] [] h (0, 0) (fun r hh => wpE 157 13 [some (.ref v0), none, none] (r.toList ++ []) hh (0, 0) Q)) :
    wpE 157 0 [some (.ref v0), none, none] [] h (0, 0) Q :=
  vc_s (ct := fun pc => Nat.beq pc 15 || Nat.beq pc 45) 1000 false (And.intro k1 (Exists.intro q1 (And.intro k2 (And.intro k1 (Exists.intro q2 (And.intro k3 (And.intro (Nat.le_of_ble_eq_true rfl) (And.intro (Nat.le_of_ble_eq_true rfl) (And.intro (Nat.le_of_ble_eq_true rfl) (And.intro (Nat.le_of_ble_eq_true rfl) H1))))))))))
/-- SnapshotRingsModel.ifAllCommitted from 13 -/
theorem r_M_ifAllCommitted_13 {v0 : Nat} {h : sn_H} {Q : Option Value → sn_H → Prop}
    (H1 : wpE 157 15 [some (.ref v0), some (.int (nI 0)), none] [] h (0, 0) Q) :
    wpE 157 13 [some (.ref v0), none, none] [] h (0, 0) Q :=
  vc_s (ct := fun pc => Nat.beq pc 15 || Nat.beq pc 45) 1000 false (And.intro (Nat.le_of_ble_eq_true rfl) H1)
/-- SnapshotRingsModel.ifAllCommitted from 15 -/
theorem r_M_ifAllCommitted_15 {v0 : Nat} {v1 : Int32} {q1 : Nat} {n1 : Nat} {h : sn_H} {Q : Option Value → sn_H → Prop}
    (k1 : hK h v0 = (0, 5, 16))
    (k2 : hR h v0 0 = some q1)
    (k3 : hK h q1 = (1, 0, n1))
    (H1 : nI 8 ≤ v1 → wpE 157 45 [some (.ref v0), some (.int (nI 0)), some (.int (nI 0))] [] h (0, 0) Q)
    (H2 : ¬ nI 8 ≤ v1 → v1 < (nI 0) → wpE 157 15 [some (.ref v0), some (.int (v1 + nI 1)), none] [] h (0, 0) Q)
    (H3 : ¬ nI 8 ≤ v1 → ¬ v1 < (nI 0) → (nI 7) < v1 → wpE 157 15 [some (.ref v0), some (.int (v1 + nI 1)), none] [] h (0, 0) Q)
    (B4 : ¬ nI 8 ≤ v1 → ¬ v1 < (nI 0) → ¬ (nI 7) < v1 → vp_in ((nI 36 + (nI 40 * v1)) + (nI 39)) n1)
    (H5 : ¬ nI 8 ≤ v1 → ¬ v1 < (nI 0) → ¬ (nI 7) < v1 → ¬ (hG h q1 ((nI 36 + (nI 40 * v1)) + (nI 39)).toNatClampNeg) = nI 1 → wpE 157 15 [some (.ref v0), some (.int (v1 + nI 1)), none] [] h (0, 0) Q)
    (H6 : ¬ nI 8 ≤ v1 → ¬ v1 < (nI 0) → ¬ (nI 7) < v1 → (hG h q1 ((nI 36 + (nI 40 * v1)) + (nI 39)).toNatClampNeg) = nI 1 → wpE 115 0 [some (.ref v0), some (.int v1), none, none] [] h (0, 0) (fun r hh => wpE 157 34 [some (.ref v0), some (.int v1), none] (r.toList ++ []) hh (0, 0) Q)) :
    wpE 157 15 [some (.ref v0), some (.int v1), none] [] h (0, 0) Q :=
  vc_s (ct := fun pc => Nat.beq pc 15 || Nat.beq pc 45) 1000 false (And.intro (fun c1 => (And.intro (Nat.le_of_ble_eq_true rfl) (And.intro (Nat.le_of_ble_eq_true rfl) (H1 c1)))) (fun c2 => (And.intro k1 (And.intro (Nat.le_of_ble_eq_true rfl) (And.intro (Nat.le_of_ble_eq_true rfl) (And.intro (Nat.le_of_ble_eq_true rfl) (And.intro (Nat.le_of_ble_eq_true rfl) (r_M_isOpen_0 (v0 := v0) (v1 := v1) (q1 := q1) (n1 := n1) (h := h) k1 k2 k3 (fun c3 => (vc_s (ct := fun pc => Nat.beq pc 15 || Nat.beq pc 45) 1000 false (And.intro (fun c4 => (And.intro (Nat.le_of_ble_eq_true rfl) (H2 c2 c3))) (fun c4 => absurd c4 (by decide))))) (fun c5 c6 => (vc_s (ct := fun pc => Nat.beq pc 15 || Nat.beq pc 45) 1000 false (And.intro (fun c7 => (And.intro (Nat.le_of_ble_eq_true rfl) (H3 c2 c5 c6))) (fun c7 => absurd c7 (by decide))))) (fun c8 c9 => (B4 c2 c8 c9)) (fun c10 c11 c12 => (vc_s (ct := fun pc => Nat.beq pc 15 || Nat.beq pc 45) 1000 false (And.intro (fun c13 => (And.intro (Nat.le_of_ble_eq_true rfl) (H5 c2 c10 c11 c12))) (fun c13 => absurd c13 (by decide))))) (fun c14 c15 c16 => (vc_s (ct := fun pc => Nat.beq pc 15 || Nat.beq pc 45) 1000 false (And.intro (fun c17 => absurd c17 (by decide)) (fun c17 => (And.intro k1 (And.intro (Nat.le_of_ble_eq_true rfl) (And.intro (Nat.le_of_ble_eq_true rfl) (And.intro (Nat.le_of_ble_eq_true rfl) (And.intro (Nat.le_of_ble_eq_true rfl) (H6 c2 c14 c15 c16))))))))))))))))))
/-- SnapshotRingsModel.ifAllCommitted from 45 -/
theorem r_M_ifAllCommitted_45 {v0 : Nat} {v1 : Int32} {v2 : Int32} {q1 : Nat} {q2 : Nat} {h : sn_H} {Q : Option Value → sn_H → Prop}
    (k1 : hK h v0 = (0, 5, 16))
    (k2 : hR h v0 1 = some q1)
    (k3 : hR h v0 0 = some q2)
    (H1 : nI 3 ≤ v2 → wpE 101 0 [some (.ref q1), some (.int (nI 0)), some (.ref q2), some (.int (nI 0)), none] [] h (0, 0) (fun r hh => wpE 157 77 [none, some (.int v1), none] (r.toList ++ []) hh (0, 0) Q))
    (H2 : ¬ nI 3 ≤ v2 → wpE 154 0 [some (.ref v0), some (.int v2), none, none] [] h (0, 0) (fun r hh => wpE 157 56 [some (.ref v0), none, some (.int v2)] (r.toList ++ [.int v1]) hh (0, 0) Q)) :
    wpE 157 45 [some (.ref v0), some (.int v1), some (.int v2)] [] h (0, 0) Q :=
  vc_s (ct := fun pc => Nat.beq pc 15 || Nat.beq pc 45) 1000 false (And.intro (fun c1 => (And.intro k1 (Exists.intro q1 (And.intro k2 (And.intro k1 (Exists.intro q2 (And.intro k3 (And.intro (Nat.le_of_ble_eq_true rfl) (And.intro (Nat.le_of_ble_eq_true rfl) (And.intro (Nat.le_of_ble_eq_true rfl) (And.intro (Nat.le_of_ble_eq_true rfl) (wpE_m (fun _ _ HH => @wpE_w _ _ [none, some (.int v1), none] _ _ _ _ _ (show LeL [none, some (.int v1), none] [some (.ref v0), some (.int v1), some (.int v2)] from (And.intro rfl trivial)) HH) (H1 c1))))))))))))) (fun c2 => (And.intro k1 (And.intro (Nat.le_of_ble_eq_true rfl) (And.intro (Nat.le_of_ble_eq_true rfl) (And.intro (Nat.le_of_ble_eq_true rfl) (And.intro (Nat.le_of_ble_eq_true rfl) (wpE_m (fun _ _ HH => @wpE_w _ _ [some (.ref v0), none, some (.int v2)] _ _ _ _ _ (show LeL [some (.ref v0), none, some (.int v2)] [some (.ref v0), some (.int v1), some (.int v2)] from (And.intro rfl (And.intro rfl trivial))) HH) (H2 c2)))))))))
/-- SnapshotRingsModel.ifAllCommitted from 34 -/
theorem r_M_ifAllCommitted_34 {v0 : Nat} {v1 : Int32} {s0 : Int32} {h : sn_H} {Q : Option Value → sn_H → Prop}
    (H1 : wpE 157 15 [some (.ref v0), some (.int (v1 + nI 1)), none] [] h (0, 0) Q) :
    wpE 157 34 [some (.ref v0), some (.int v1), none] [.int s0] h (0, 0) Q :=
  vc_s (ct := fun pc => Nat.beq pc 15 || Nat.beq pc 45) 1000 false (And.intro rfl (And.intro (Nat.le_of_ble_eq_true rfl) H1))
/-- SnapshotRingsModel.ifAllCommitted from 77 -/
theorem r_M_ifAllCommitted_77 {v1 : Int32} {h : sn_H} {Q : Option Value → sn_H → Prop}
    (H1 : Q (some (.int v1)) h) :
    wpE 157 77 [none, some (.int v1), none] [] h (0, 0) Q :=
  vc_s (ct := fun pc => Nat.beq pc 15 || Nat.beq pc 45) 1000 false H1
/-- SnapshotRingsModel.ifAllCommitted from 56 -/
theorem r_M_ifAllCommitted_56 {v0 : Nat} {v2 : Int32} {s0 : Int32} {s1 : Int32} {h : sn_H} {Q : Option Value → sn_H → Prop}
    (H1 : wpE 157 45 [some (.ref v0), some (.int (s0 + s1)), some (.int (v2 + nI 1))] [] h (0, 0) Q) :
    wpE 157 56 [some (.ref v0), none, some (.int v2)] [.int s1, .int s0] h (0, 0) Q :=
  vc_s (ct := fun pc => Nat.beq pc 15 || Nat.beq pc 45) 1000 false (And.intro (Nat.le_of_ble_eq_true rfl) (And.intro (Nat.le_of_ble_eq_true rfl) H1))
/-- SnapshotRingsModel.refusedBy from 0 -/
theorem r_M_refusedBy_0 {v0 : Nat} {v1 : Int32} {q1 : Nat} {n1 : Nat} {h : sn_H} {Q : Option Value → sn_H → Prop}
    (k1 : hK h v0 = (0, 5, 16))
    (k2 : hR h v0 0 = some q1)
    (k3 : hK h q1 = (1, 0, n1))
    (H1 : v1 < (nI 0) → Q (some (.int (-(nI 20001)))) h)
    (H2 : ¬ v1 < (nI 0) → (nI 7) < v1 → Q (some (.int (-(nI 20001)))) h)
    (B3 : ¬ v1 < (nI 0) → ¬ (nI 7) < v1 → vp_in ((nI 36 + (nI 40 * v1)) + (nI 39)) n1)
    (H4 : ¬ v1 < (nI 0) → ¬ (nI 7) < v1 → ¬ (hG h q1 ((nI 36 + (nI 40 * v1)) + (nI 39)).toNatClampNeg) = nI 1 → Q (some (.int (-(nI 20001)))) h)
    (H5 : ¬ v1 < (nI 0) → ¬ (nI 7) < v1 → (hG h q1 ((nI 36 + (nI 40 * v1)) + (nI 39)).toNatClampNeg) = nI 1 → wpE 158 14 [some (.ref v0), some (.int v1), some (.int (nI 0))] [] h (0, 0) Q) :
    wpE 158 0 [some (.ref v0), some (.int v1), none] [] h (0, 0) Q :=
  vc_s (ct := fun pc => Nat.beq pc 14) 1000 false (And.intro k1 (And.intro (Nat.le_of_ble_eq_true rfl) (And.intro (Nat.le_of_ble_eq_true rfl) (And.intro (Nat.le_of_ble_eq_true rfl) (And.intro (Nat.le_of_ble_eq_true rfl) (r_M_isOpen_0 (v0 := v0) (v1 := v1) (q1 := q1) (n1 := n1) (h := h) k1 k2 k3 (fun c1 => (vc_s (ct := fun pc => Nat.beq pc 14) 1000 false (And.intro (fun c2 => absurd c2 (by decide)) (fun c2 => (H1 c1))))) (fun c3 c4 => (vc_s (ct := fun pc => Nat.beq pc 14) 1000 false (And.intro (fun c5 => absurd c5 (by decide)) (fun c5 => (H2 c3 c4))))) (fun c6 c7 => (B3 c6 c7)) (fun c8 c9 c10 => (vc_s (ct := fun pc => Nat.beq pc 14) 1000 false (And.intro (fun c11 => absurd c11 (by decide)) (fun c11 => (H4 c8 c9 c10))))) (fun c12 c13 c14 => (vc_s (ct := fun pc => Nat.beq pc 14) 1000 false (And.intro (fun c15 => (And.intro (Nat.le_of_ble_eq_true rfl) (H5 c12 c13 c14))) (fun c15 => absurd c15 (by decide)))))))))))
/-- SnapshotRingsModel.refusedBy from 14 -/
theorem r_M_refusedBy_14 {v0 : Nat} {v1 : Int32} {v2 : Int32} {h : sn_H} {Q : Option Value → sn_H → Prop}
    (k1 : hK h v0 = (0, 5, 16))
    (H1 : nI 2 < v2 → Q (some (.int (-(nI 20006)))) h)
    (H2 : ¬ nI 2 < v2 → wpE 116 0 [some (.ref v0), some (.int v1), some (.int v2)] [] h (0, 0) (fun r hh => wpE 158 25 [some (.ref v0), some (.int v1), some (.int v2)] (r.toList ++ []) hh (0, 0) Q)) :
    wpE 158 14 [some (.ref v0), some (.int v1), some (.int v2)] [] h (0, 0) Q :=
  vc_s (ct := fun pc => Nat.beq pc 14) 1000 false (And.intro (fun c1 => (H1 c1)) (fun c2 => (And.intro k1 (And.intro (Nat.le_of_ble_eq_true rfl) (And.intro (Nat.le_of_ble_eq_true rfl) (And.intro (Nat.le_of_ble_eq_true rfl) (And.intro (Nat.le_of_ble_eq_true rfl) (H2 c2))))))))
/-- SnapshotRingsModel.refusedBy from 25 -/
theorem r_M_refusedBy_25 {v0 : Nat} {v1 : Int32} {v2 : Int32} {s0 : Int32} {h : sn_H} {Q : Option Value → sn_H → Prop}
    (H1 : s0 ≤ 0 → wpE 158 14 [some (.ref v0), some (.int v1), some (.int (v2 + nI 1))] [] h (0, 0) Q)
    (H2 : ¬ s0 ≤ 0 → Q (some (.int v2)) h) :
    wpE 158 25 [some (.ref v0), some (.int v1), some (.int v2)] [.int s0] h (0, 0) Q :=
  vc_s (ct := fun pc => Nat.beq pc 14) 1000 false (And.intro (fun c1 => (And.intro (Nat.le_of_ble_eq_true rfl) (H1 c1))) (fun c2 => (H2 c2)))
/-- SnapshotRingsModel.type from 0 -/
theorem r_M_type_0 {v0 : Nat} {v1 : Int32} {q1 : Nat} {n1 : Nat} {h : sn_H} {Q : Option Value → sn_H → Prop}
    (k1 : hK h v0 = (0, 5, 16))
    (k2 : hR h v0 4 = some q1)
    (k3 : hK h q1 = (1, 0, n1))
    (H1 : v1 < (nI 33) → Q (some (.int (-(nI 20002)))) h)
    (H2 : ¬ v1 < (nI 33) → (nI 126) < v1 → Q (some (.int (-(nI 20002)))) h)
    (B3 : ¬ v1 < (nI 33) → ¬ (nI 126) < v1 → ¬ (hG h v0 5) = nI 80 → vp_in (hG h v0 5) n1)
    (H4 : ¬ v1 < (nI 33) → ¬ (nI 126) < v1 → ¬ (hG h v0 5) = nI 80 → Q (some (.int (hG (setG (setG h q1 (hG h v0 5).toNatClampNeg v1) v0 5 ((hG (setG h q1 (hG h v0 5).toNatClampNeg v1) v0 5) + nI 1)) v0 5))) (setG (setG h q1 (hG h v0 5).toNatClampNeg v1) v0 5 ((hG (setG h q1 (hG h v0 5).toNatClampNeg v1) v0 5) + nI 1)))
    (H5 : ¬ v1 < (nI 33) → ¬ (nI 126) < v1 → (hG h v0 5) = nI 80 → Q (some (.int (-(nI 20004)))) h) :
    wpE 159 0 [some (.ref v0), some (.int v1)] [] h (0, 0) Q :=
  vc_s (ct := fun _ => false) 1000 false (And.intro (Nat.le_of_ble_eq_true rfl) (And.intro (Nat.le_of_ble_eq_true rfl) (And.intro (Nat.le_of_ble_eq_true rfl) (And.intro (Nat.le_of_ble_eq_true rfl) (r_M_within_0 (v0 := v1) (v1 := (nI 33)) (v2 := (nI 126)) (h := h) (fun c1 => (vc_s (ct := fun _ => false) 1000 false (And.intro (fun c2 => absurd c2 (by decide)) (fun c2 => (H1 c1))))) (fun c3 c4 => (vc_s (ct := fun _ => false) 1000 false (And.intro (fun c5 => absurd c5 (by decide)) (fun c5 => (H2 c3 c4))))) (fun c6 c7 => (vc_s (ct := fun _ => false) 1000 false (And.intro (fun c8 => (And.intro k1 (And.intro (fun c9 => (And.intro k1 (Exists.intro q1 (And.intro k2 (And.intro k1 (Exists.intro n1 (And.intro k3 (And.intro (B3 c6 c7 c9) (And.intro rfl (And.intro k1 (And.intro k1 (And.intro rfl (And.intro k1 (H4 c6 c7 c9)))))))))))))) (fun c10 => (H5 c6 c7 c10))))) (fun c8 => absurd c8 (by decide))))))))))
/-- SnapshotRingsModel.clearText from 0 -/
theorem r_M_clearText_0 {v0 : Nat} {h : sn_H} {Q : Option Value → sn_H → Prop}
    (k1 : hK h v0 = (0, 5, 16))
    (H1 : Q (some (.int (hG h v0 5))) (setG h v0 5 (nI 0))) :
    wpE 160 0 [some (.ref v0), none] [] h (0, 0) Q :=
  vc_s (ct := fun _ => false) 1000 false (And.intro k1 (And.intro (Nat.le_of_ble_eq_true rfl) (And.intro k1 (And.intro rfl H1))))
/-- SnapshotRingsModel.character from 0 -/
theorem r_M_character_0 {v0 : Nat} {v1 : Int32} {q1 : Nat} {n1 : Nat} {h : sn_H} {Q : Option Value → sn_H → Prop}
    (k1 : hK h v0 = (0, 5, 16))
    (k2 : hR h v0 4 = some q1)
    (k3 : hK h q1 = (1, 0, n1))
    (H1 : (hG h v0 5) ≤ v1 → Q (some (.int (-(nI 1)))) h)
    (B2 : ¬ (hG h v0 5) ≤ v1 → vp_in v1 n1)
    (H3 : ¬ (hG h v0 5) ≤ v1 → Q (some (.int (hG h q1 v1.toNatClampNeg))) h) :
    wpE 164 0 [some (.ref v0), some (.int v1)] [] h (0, 0) Q :=
  vc_s (ct := fun _ => false) 1000 false (And.intro k1 (And.intro (fun c1 => (H1 c1)) (fun c2 => (And.intro k1 (Exists.intro q1 (And.intro k2 (Exists.intro 0 (Exists.intro n1 (And.intro k3 (And.intro (B2 c2) (H3 c2)))))))))))
/-- SnapshotRingsModel.readsSlot from 0 -/
theorem r_M_readsSlot_0 {v0 : Nat} {q1 : Nat} {n1 : Nat} {h : sn_H} {Q : Option Value → sn_H → Prop}
    (k1 : hK h v0 = (0, 5, 16))
    (k2 : hR h v0 4 = some q1)
    (k3 : hK h q1 = (1, 0, n1))
    (H1 : (hG h v0 5) ≤ (hG h v0 11) → wpE 165 49 [none, some (.int (nI 0))] [] (setG (setG h v0 13 (-(nI 1) - nI 48)) v0 11 ((hG (setG h v0 13 (-(nI 1) - nI 48)) v0 11) + nI 0)) (0, 0) Q)
    (B2 : ¬ (hG h v0 5) ≤ (hG h v0 11) → vp_in (hG h v0 11) n1)
    (B3 : ¬ (hG h v0 5) ≤ (hG h v0 11) → (hG h q1 (hG h v0 11).toNatClampNeg) < (nI 48) → vp_in (hG h v0 11) n1)
    (H4 : ¬ (hG h v0 5) ≤ (hG h v0 11) → (hG h q1 (hG h v0 11).toNatClampNeg) < (nI 48) → wpE 165 49 [none, some (.int (nI 0))] [] (setG (setG h v0 13 ((hG h q1 (hG h v0 11).toNatClampNeg) - nI 48)) v0 11 ((hG (setG h v0 13 ((hG h q1 (hG h v0 11).toNatClampNeg) - nI 48)) v0 11) + nI 0)) (0, 0) Q)
    (B5 : ¬ (hG h v0 5) ≤ (hG h v0 11) → ¬ (hG h q1 (hG h v0 11).toNatClampNeg) < (nI 48) → (nI 55) < (hG h q1 (hG h v0 11).toNatClampNeg) → vp_in (hG h v0 11) n1)
    (H6 : ¬ (hG h v0 5) ≤ (hG h v0 11) → ¬ (hG h q1 (hG h v0 11).toNatClampNeg) < (nI 48) → (nI 55) < (hG h q1 (hG h v0 11).toNatClampNeg) → wpE 165 49 [none, some (.int (nI 0))] [] (setG (setG h v0 13 ((hG h q1 (hG h v0 11).toNatClampNeg) - nI 48)) v0 11 ((hG (setG h v0 13 ((hG h q1 (hG h v0 11).toNatClampNeg) - nI 48)) v0 11) + nI 0)) (0, 0) Q)
    (B7 : ¬ (hG h v0 5) ≤ (hG h v0 11) → ¬ (hG h q1 (hG h v0 11).toNatClampNeg) < (nI 48) → ¬ (nI 55) < (hG h q1 (hG h v0 11).toNatClampNeg) → vp_in (hG h v0 11) n1)
    (H8 : ¬ (hG h v0 5) ≤ (hG h v0 11) → ¬ (hG h q1 (hG h v0 11).toNatClampNeg) < (nI 48) → ¬ (nI 55) < (hG h q1 (hG h v0 11).toNatClampNeg) → wpE 165 49 [none, some (.int (nI 1))] [] (setG (setG h v0 13 ((hG h q1 (hG h v0 11).toNatClampNeg) - nI 48)) v0 11 ((hG (setG h v0 13 ((hG h q1 (hG h v0 11).toNatClampNeg) - nI 48)) v0 11) + nI 1)) (0, 0) Q) :
    wpE 165 0 [some (.ref v0), none] [] h (0, 0) Q :=
  vc_s (ct := fun pc => Nat.beq pc 49) 1000 false (And.intro k1 (And.intro k1 (And.intro (Nat.le_of_ble_eq_true rfl) (And.intro (Nat.le_of_ble_eq_true rfl) (And.intro (Nat.le_of_ble_eq_true rfl) (And.intro (Nat.le_of_ble_eq_true rfl) (r_M_character_0 (v0 := v0) (v1 := (hG h v0 11)) (q1 := q1) (n1 := n1) (h := h) k1 k2 k3 (fun c1 => (vc_s (ct := fun pc => Nat.beq pc 49) 1000 false (And.intro (Nat.le_of_ble_eq_true rfl) (And.intro (Nat.le_of_ble_eq_true rfl) (And.intro (Nat.le_of_ble_eq_true rfl) (And.intro (Nat.le_of_ble_eq_true rfl) (r_M_within_0 (v0 := (-(nI 1))) (v1 := (nI 48)) (v2 := (nI 55)) (h := h) (fun c2 => (vc_s (ct := fun pc => Nat.beq pc 49) 1000 false (And.intro (Nat.le_of_ble_eq_true rfl) (And.intro k1 (And.intro k1 (And.intro (Nat.le_of_ble_eq_true rfl) (And.intro (Nat.le_of_ble_eq_true rfl) (And.intro (Nat.le_of_ble_eq_true rfl) (And.intro (Nat.le_of_ble_eq_true rfl) (r_M_character_0 (v0 := v0) (v1 := (hG h v0 11)) (q1 := q1) (n1 := n1) (h := h) k1 k2 k3 (fun c3 => (vc_s (ct := fun pc => Nat.beq pc 49) 1000 false (And.intro k1 (And.intro rfl (And.intro rfl (And.intro k1 (And.intro (fun c4 => (And.intro k1 (And.intro rfl (@wpE_w _ _ [none, some (.int (nI 0))] _ _ _ _ _ (show LeL [none, some (.int (nI 0))] [some (.ref v0), some (.int (nI 0))] from (And.intro rfl trivial)) (H1 c1))))) (fun c4 => absurd c4 (by decide))))))))) (fun c5 => absurd c1 c5) (fun c6 => absurd c1 c6))))))))))) (fun c7 c8 => absurd c8 (by decide)) (fun c9 c10 => absurd c9 (by decide))))))))) (fun c11 => (B2 c11)) (fun c12 => (vc_s (ct := fun pc => Nat.beq pc 49) 1000 false (And.intro (Nat.le_of_ble_eq_true rfl) (And.intro (Nat.le_of_ble_eq_true rfl) (And.intro (Nat.le_of_ble_eq_true rfl) (And.intro (Nat.le_of_ble_eq_true rfl) (r_M_within_0 (v0 := (hG h q1 (hG h v0 11).toNatClampNeg)) (v1 := (nI 48)) (v2 := (nI 55)) (h := h) (fun c13 => (vc_s (ct := fun pc => Nat.beq pc 49) 1000 false (And.intro (Nat.le_of_ble_eq_true rfl) (And.intro k1 (And.intro k1 (And.intro (Nat.le_of_ble_eq_true rfl) (And.intro (Nat.le_of_ble_eq_true rfl) (And.intro (Nat.le_of_ble_eq_true rfl) (And.intro (Nat.le_of_ble_eq_true rfl) (r_M_character_0 (v0 := v0) (v1 := (hG h v0 11)) (q1 := q1) (n1 := n1) (h := h) k1 k2 k3 (fun c14 => absurd c14 c12) (fun c15 => (B3 c12 c13)) (fun c16 => (vc_s (ct := fun pc => Nat.beq pc 49) 1000 false (And.intro k1 (And.intro rfl (And.intro rfl (And.intro k1 (And.intro (fun c17 => (And.intro k1 (And.intro rfl (@wpE_w _ _ [none, some (.int (nI 0))] _ _ _ _ _ (show LeL [none, some (.int (nI 0))] [some (.ref v0), some (.int (nI 0))] from (And.intro rfl trivial)) (H4 c12 c13))))) (fun c17 => absurd c17 (by decide))))))))))))))))))) (fun c18 c19 => (vc_s (ct := fun pc => Nat.beq pc 49) 1000 false (And.intro (Nat.le_of_ble_eq_true rfl) (And.intro k1 (And.intro k1 (And.intro (Nat.le_of_ble_eq_true rfl) (And.intro (Nat.le_of_ble_eq_true rfl) (And.intro (Nat.le_of_ble_eq_true rfl) (And.intro (Nat.le_of_ble_eq_true rfl) (r_M_character_0 (v0 := v0) (v1 := (hG h v0 11)) (q1 := q1) (n1 := n1) (h := h) k1 k2 k3 (fun c20 => absurd c20 c12) (fun c21 => (B5 c12 c18 c19)) (fun c22 => (vc_s (ct := fun pc => Nat.beq pc 49) 1000 false (And.intro k1 (And.intro rfl (And.intro rfl (And.intro k1 (And.intro (fun c23 => (And.intro k1 (And.intro rfl (@wpE_w _ _ [none, some (.int (nI 0))] _ _ _ _ _ (show LeL [none, some (.int (nI 0))] [some (.ref v0), some (.int (nI 0))] from (And.intro rfl trivial)) (H6 c12 c18 c19))))) (fun c23 => absurd c23 (by decide))))))))))))))))))) (fun c24 c25 => (vc_s (ct := fun pc => Nat.beq pc 49) 1000 false (And.intro (Nat.le_of_ble_eq_true rfl) (And.intro k1 (And.intro k1 (And.intro (Nat.le_of_ble_eq_true rfl) (And.intro (Nat.le_of_ble_eq_true rfl) (And.intro (Nat.le_of_ble_eq_true rfl) (And.intro (Nat.le_of_ble_eq_true rfl) (r_M_character_0 (v0 := v0) (v1 := (hG h v0 11)) (q1 := q1) (n1 := n1) (h := h) k1 k2 k3 (fun c26 => absurd c26 c12) (fun c27 => (B7 c12 c24 c25)) (fun c28 => (vc_s (ct := fun pc => Nat.beq pc 49) 1000 false (And.intro k1 (And.intro rfl (And.intro rfl (And.intro k1 (And.intro (fun c29 => absurd c29 (by decide)) (fun c29 => (And.intro k1 (And.intro rfl (@wpE_w _ _ [none, some (.int (nI 1))] _ _ _ _ _ (show LeL [none, some (.int (nI 1))] [some (.ref v0), some (.int (nI 1))] from (And.intro rfl trivial)) (H8 c12 c24 c25))))))))))))))))))))))))))))))))))))
/-- SnapshotRingsModel.readsSlot from 49 -/
theorem r_M_readsSlot_49 {v1 : Int32} {h : sn_H} {Q : Option Value → sn_H → Prop}
    (H1 : Q (some (.int v1)) h)
    (B2 : narrow .boolean (.int v1) = .int v1) :
    wpE 165 49 [none, some (.int v1)] [] h (0, 0) Q :=
  vc_s (ct := fun pc => Nat.beq pc 49) 1000 false (And.intro B2 H1)
/-- SnapshotRingsModel.readsKey from 0 -/
theorem r_M_readsKey_0 {v0 : Nat} {q1 : Nat} {n1 : Nat} {h : sn_H} {Q : Option Value → sn_H → Prop}
    (k1 : hK h v0 = (0, 5, 16))
    (k2 : hR h v0 4 = some q1)
    (k3 : hK h q1 = (1, 0, n1))
    (H1 : (hG h v0 5) ≤ (hG h v0 11) → wpE 166 49 [none, some (.int (nI 0))] [] (setG (setG h v0 14 (-(nI 1) - nI 97)) v0 11 ((hG (setG h v0 14 (-(nI 1) - nI 97)) v0 11) + nI 0)) (0, 0) Q)
    (B2 : ¬ (hG h v0 5) ≤ (hG h v0 11) → vp_in (hG h v0 11) n1)
    (B3 : ¬ (hG h v0 5) ≤ (hG h v0 11) → (hG h q1 (hG h v0 11).toNatClampNeg) < (nI 97) → vp_in (hG h v0 11) n1)
    (H4 : ¬ (hG h v0 5) ≤ (hG h v0 11) → (hG h q1 (hG h v0 11).toNatClampNeg) < (nI 97) → wpE 166 49 [none, some (.int (nI 0))] [] (setG (setG h v0 14 ((hG h q1 (hG h v0 11).toNatClampNeg) - nI 97)) v0 11 ((hG (setG h v0 14 ((hG h q1 (hG h v0 11).toNatClampNeg) - nI 97)) v0 11) + nI 0)) (0, 0) Q)
    (B5 : ¬ (hG h v0 5) ≤ (hG h v0 11) → ¬ (hG h q1 (hG h v0 11).toNatClampNeg) < (nI 97) → (nI 108) < (hG h q1 (hG h v0 11).toNatClampNeg) → vp_in (hG h v0 11) n1)
    (H6 : ¬ (hG h v0 5) ≤ (hG h v0 11) → ¬ (hG h q1 (hG h v0 11).toNatClampNeg) < (nI 97) → (nI 108) < (hG h q1 (hG h v0 11).toNatClampNeg) → wpE 166 49 [none, some (.int (nI 0))] [] (setG (setG h v0 14 ((hG h q1 (hG h v0 11).toNatClampNeg) - nI 97)) v0 11 ((hG (setG h v0 14 ((hG h q1 (hG h v0 11).toNatClampNeg) - nI 97)) v0 11) + nI 0)) (0, 0) Q)
    (B7 : ¬ (hG h v0 5) ≤ (hG h v0 11) → ¬ (hG h q1 (hG h v0 11).toNatClampNeg) < (nI 97) → ¬ (nI 108) < (hG h q1 (hG h v0 11).toNatClampNeg) → vp_in (hG h v0 11) n1)
    (H8 : ¬ (hG h v0 5) ≤ (hG h v0 11) → ¬ (hG h q1 (hG h v0 11).toNatClampNeg) < (nI 97) → ¬ (nI 108) < (hG h q1 (hG h v0 11).toNatClampNeg) → wpE 166 49 [none, some (.int (nI 1))] [] (setG (setG h v0 14 ((hG h q1 (hG h v0 11).toNatClampNeg) - nI 97)) v0 11 ((hG (setG h v0 14 ((hG h q1 (hG h v0 11).toNatClampNeg) - nI 97)) v0 11) + nI 1)) (0, 0) Q) :
    wpE 166 0 [some (.ref v0), none] [] h (0, 0) Q :=
  vc_s (ct := fun pc => Nat.beq pc 49) 1000 false (And.intro k1 (And.intro k1 (And.intro (Nat.le_of_ble_eq_true rfl) (And.intro (Nat.le_of_ble_eq_true rfl) (And.intro (Nat.le_of_ble_eq_true rfl) (And.intro (Nat.le_of_ble_eq_true rfl) (r_M_character_0 (v0 := v0) (v1 := (hG h v0 11)) (q1 := q1) (n1 := n1) (h := h) k1 k2 k3 (fun c1 => (vc_s (ct := fun pc => Nat.beq pc 49) 1000 false (And.intro (Nat.le_of_ble_eq_true rfl) (And.intro (Nat.le_of_ble_eq_true rfl) (And.intro (Nat.le_of_ble_eq_true rfl) (And.intro (Nat.le_of_ble_eq_true rfl) (r_M_within_0 (v0 := (-(nI 1))) (v1 := (nI 97)) (v2 := (nI 108)) (h := h) (fun c2 => (vc_s (ct := fun pc => Nat.beq pc 49) 1000 false (And.intro (Nat.le_of_ble_eq_true rfl) (And.intro k1 (And.intro k1 (And.intro (Nat.le_of_ble_eq_true rfl) (And.intro (Nat.le_of_ble_eq_true rfl) (And.intro (Nat.le_of_ble_eq_true rfl) (And.intro (Nat.le_of_ble_eq_true rfl) (r_M_character_0 (v0 := v0) (v1 := (hG h v0 11)) (q1 := q1) (n1 := n1) (h := h) k1 k2 k3 (fun c3 => (vc_s (ct := fun pc => Nat.beq pc 49) 1000 false (And.intro k1 (And.intro rfl (And.intro rfl (And.intro k1 (And.intro (fun c4 => (And.intro k1 (And.intro rfl (@wpE_w _ _ [none, some (.int (nI 0))] _ _ _ _ _ (show LeL [none, some (.int (nI 0))] [some (.ref v0), some (.int (nI 0))] from (And.intro rfl trivial)) (H1 c1))))) (fun c4 => absurd c4 (by decide))))))))) (fun c5 => absurd c1 c5) (fun c6 => absurd c1 c6))))))))))) (fun c7 c8 => absurd c8 (by decide)) (fun c9 c10 => absurd c9 (by decide))))))))) (fun c11 => (B2 c11)) (fun c12 => (vc_s (ct := fun pc => Nat.beq pc 49) 1000 false (And.intro (Nat.le_of_ble_eq_true rfl) (And.intro (Nat.le_of_ble_eq_true rfl) (And.intro (Nat.le_of_ble_eq_true rfl) (And.intro (Nat.le_of_ble_eq_true rfl) (r_M_within_0 (v0 := (hG h q1 (hG h v0 11).toNatClampNeg)) (v1 := (nI 97)) (v2 := (nI 108)) (h := h) (fun c13 => (vc_s (ct := fun pc => Nat.beq pc 49) 1000 false (And.intro (Nat.le_of_ble_eq_true rfl) (And.intro k1 (And.intro k1 (And.intro (Nat.le_of_ble_eq_true rfl) (And.intro (Nat.le_of_ble_eq_true rfl) (And.intro (Nat.le_of_ble_eq_true rfl) (And.intro (Nat.le_of_ble_eq_true rfl) (r_M_character_0 (v0 := v0) (v1 := (hG h v0 11)) (q1 := q1) (n1 := n1) (h := h) k1 k2 k3 (fun c14 => absurd c14 c12) (fun c15 => (B3 c12 c13)) (fun c16 => (vc_s (ct := fun pc => Nat.beq pc 49) 1000 false (And.intro k1 (And.intro rfl (And.intro rfl (And.intro k1 (And.intro (fun c17 => (And.intro k1 (And.intro rfl (@wpE_w _ _ [none, some (.int (nI 0))] _ _ _ _ _ (show LeL [none, some (.int (nI 0))] [some (.ref v0), some (.int (nI 0))] from (And.intro rfl trivial)) (H4 c12 c13))))) (fun c17 => absurd c17 (by decide))))))))))))))))))) (fun c18 c19 => (vc_s (ct := fun pc => Nat.beq pc 49) 1000 false (And.intro (Nat.le_of_ble_eq_true rfl) (And.intro k1 (And.intro k1 (And.intro (Nat.le_of_ble_eq_true rfl) (And.intro (Nat.le_of_ble_eq_true rfl) (And.intro (Nat.le_of_ble_eq_true rfl) (And.intro (Nat.le_of_ble_eq_true rfl) (r_M_character_0 (v0 := v0) (v1 := (hG h v0 11)) (q1 := q1) (n1 := n1) (h := h) k1 k2 k3 (fun c20 => absurd c20 c12) (fun c21 => (B5 c12 c18 c19)) (fun c22 => (vc_s (ct := fun pc => Nat.beq pc 49) 1000 false (And.intro k1 (And.intro rfl (And.intro rfl (And.intro k1 (And.intro (fun c23 => (And.intro k1 (And.intro rfl (@wpE_w _ _ [none, some (.int (nI 0))] _ _ _ _ _ (show LeL [none, some (.int (nI 0))] [some (.ref v0), some (.int (nI 0))] from (And.intro rfl trivial)) (H6 c12 c18 c19))))) (fun c23 => absurd c23 (by decide))))))))))))))))))) (fun c24 c25 => (vc_s (ct := fun pc => Nat.beq pc 49) 1000 false (And.intro (Nat.le_of_ble_eq_true rfl) (And.intro k1 (And.intro k1 (And.intro (Nat.le_of_ble_eq_true rfl) (And.intro (Nat.le_of_ble_eq_true rfl) (And.intro (Nat.le_of_ble_eq_true rfl) (And.intro (Nat.le_of_ble_eq_true rfl) (r_M_character_0 (v0 := v0) (v1 := (hG h v0 11)) (q1 := q1) (n1 := n1) (h := h) k1 k2 k3 (fun c26 => absurd c26 c12) (fun c27 => (B7 c12 c24 c25)) (fun c28 => (vc_s (ct := fun pc => Nat.beq pc 49) 1000 false (And.intro k1 (And.intro rfl (And.intro rfl (And.intro k1 (And.intro (fun c29 => absurd c29 (by decide)) (fun c29 => (And.intro k1 (And.intro rfl (@wpE_w _ _ [none, some (.int (nI 1))] _ _ _ _ _ (show LeL [none, some (.int (nI 1))] [some (.ref v0), some (.int (nI 1))] from (And.intro rfl trivial)) (H8 c12 c24 c25))))))))))))))))))))))))))))))))))))
/-- SnapshotRingsModel.readsKey from 49 -/
theorem r_M_readsKey_49 {v1 : Int32} {h : sn_H} {Q : Option Value → sn_H → Prop}
    (H1 : Q (some (.int v1)) h)
    (B2 : narrow .boolean (.int v1) = .int v1) :
    wpE 166 49 [none, some (.int v1)] [] h (0, 0) Q :=
  vc_s (ct := fun pc => Nat.beq pc 49) 1000 false (And.intro B2 H1)
/-- SnapshotRingsModel.isNext from 0 -/
theorem r_M_isNext_0 {v0 : Nat} {v1 : Int32} {q1 : Nat} {n1 : Nat} {h : sn_H} {Q : Option Value → sn_H → Prop}
    (k1 : hK h v0 = (0, 5, 16))
    (k2 : hR h v0 4 = some q1)
    (k3 : hK h q1 = (1, 0, n1))
    (H1 : (hG h v0 5) ≤ (hG h v0 11) → ¬ -(nI 1) = v1 → Q (some (.int (nI 0))) (setG h v0 11 ((hG h v0 11) + nI 0)))
    (H2 : (hG h v0 5) ≤ (hG h v0 11) → -(nI 1) = v1 → Q (some (.int (nI 1))) (setG h v0 11 ((hG h v0 11) + nI 1)))
    (B3 : ¬ (hG h v0 5) ≤ (hG h v0 11) → vp_in (hG h v0 11) n1)
    (H4 : ¬ (hG h v0 5) ≤ (hG h v0 11) → ¬ (hG h q1 (hG h v0 11).toNatClampNeg) = v1 → Q (some (.int (nI 0))) (setG h v0 11 ((hG h v0 11) + nI 0)))
    (H5 : ¬ (hG h v0 5) ≤ (hG h v0 11) → (hG h q1 (hG h v0 11).toNatClampNeg) = v1 → Q (some (.int (nI 1))) (setG h v0 11 ((hG h v0 11) + nI 1))) :
    wpE 167 0 [some (.ref v0), some (.int v1), none] [] h (0, 0) Q :=
  vc_s (ct := fun _ => false) 1000 false (And.intro k1 (And.intro k1 (And.intro (Nat.le_of_ble_eq_true rfl) (And.intro (Nat.le_of_ble_eq_true rfl) (And.intro (Nat.le_of_ble_eq_true rfl) (And.intro (Nat.le_of_ble_eq_true rfl) (r_M_character_0 (v0 := v0) (v1 := (hG h v0 11)) (q1 := q1) (n1 := n1) (h := h) k1 k2 k3 (fun c1 => (vc_s (ct := fun _ => false) 1000 false (And.intro (fun c2 => (And.intro (Nat.le_of_ble_eq_true rfl) (And.intro rfl (And.intro k1 (And.intro (fun c3 => (And.intro k1 (And.intro rfl (And.intro rfl (H1 c1 c2))))) (fun c3 => absurd c3 (by decide))))))) (fun c4 => (And.intro (Nat.le_of_ble_eq_true rfl) (And.intro rfl (And.intro k1 (And.intro (fun c5 => absurd c5 (by decide)) (fun c5 => (And.intro k1 (And.intro rfl (And.intro rfl (H2 c1 c4))))))))))))) (fun c6 => (B3 c6)) (fun c7 => (vc_s (ct := fun _ => false) 1000 false (And.intro (fun c8 => (And.intro (Nat.le_of_ble_eq_true rfl) (And.intro rfl (And.intro k1 (And.intro (fun c9 => (And.intro k1 (And.intro rfl (And.intro rfl (H4 c7 c8))))) (fun c9 => absurd c9 (by decide))))))) (fun c10 => (And.intro (Nat.le_of_ble_eq_true rfl) (And.intro rfl (And.intro k1 (And.intro (fun c11 => absurd c11 (by decide)) (fun c11 => (And.intro k1 (And.intro rfl (And.intro rfl (H5 c7 c10))))))))))))))))))))
/-- SnapshotRingsModel.readsValue from 0 -/
theorem r_M_readsValue_0 {v0 : Nat} {h : sn_H} {Q : Option Value → sn_H → Prop}
    (k1 : hK h v0 = (0, 5, 16))
    (H1 : wpE 167 0 [some (.ref v0), some (.int (nI 45)), none] [] h (0, 0) (fun r hh => wpE 168 6 [some (.ref v0), none, none] (r.toList ++ []) hh (0, 0) Q)) :
    wpE 168 0 [some (.ref v0), none, none] [] h (0, 0) Q :=
  vc_s (ct := fun pc => Nat.beq pc 22 || Nat.beq pc 83) 1000 false (And.intro k1 (And.intro (Nat.le_of_ble_eq_true rfl) (And.intro (Nat.le_of_ble_eq_true rfl) (And.intro (Nat.le_of_ble_eq_true rfl) (And.intro (Nat.le_of_ble_eq_true rfl) H1)))))
/-- SnapshotRingsModel.readsValue from 6 -/
theorem r_M_readsValue_6 {v0 : Nat} {s0 : Int32} {h : sn_H} {Q : Option Value → sn_H → Prop}
    (k1 : hK h v0 = (0, 5, 16))
    (H1 : s0 = 0 → wpE 168 22 [some (.ref v0), some (.int (nI 1)), some (.int (nI 0))] [] (setG h v0 15 (nI 0)) (0, 0) Q)
    (H2 : ¬ s0 = 0 → wpE 168 22 [some (.ref v0), some (.int (-(nI 1))), some (.int (nI 0))] [] (setG h v0 15 (nI 0)) (0, 0) Q) :
    wpE 168 6 [some (.ref v0), none, none] [.int s0] h (0, 0) Q :=
  vc_s (ct := fun pc => Nat.beq pc 22 || Nat.beq pc 83) 1000 false (And.intro (fun c1 => (And.intro (Nat.le_of_ble_eq_true rfl) (And.intro k1 (And.intro rfl (And.intro (Nat.le_of_ble_eq_true rfl) (H1 c1)))))) (fun c2 => (And.intro (Nat.le_of_ble_eq_true rfl) (And.intro k1 (And.intro rfl (And.intro (Nat.le_of_ble_eq_true rfl) (H2 c2)))))))
/-- SnapshotRingsModel.readsValue from 22 -/
theorem r_M_readsValue_22 {v0 : Nat} {v1 : Int32} {v2 : Int32} {q1 : Nat} {n1 : Nat} {h : sn_H} {Q : Option Value → sn_H → Prop}
    (k1 : hK h v0 = (0, 5, 16))
    (k2 : hR h v0 4 = some q1)
    (k3 : hK h q1 = (1, 0, n1))
    (H1 : nI 3 ≤ v2 → v2 ≤ 0 → Q (some (.int (nI 0))) h)
    (H2 : nI 3 ≤ v2 → ¬ v2 ≤ 0 → Q (some (.int (nI 1))) h)
    (H3 : ¬ nI 3 ≤ v2 → (hG h v0 5) ≤ (hG h v0 11) → v2 ≤ 0 → Q (some (.int (nI 0))) h)
    (H4 : ¬ nI 3 ≤ v2 → (hG h v0 5) ≤ (hG h v0 11) → ¬ v2 ≤ 0 → Q (some (.int (nI 1))) h)
    (B5 : ¬ nI 3 ≤ v2 → ¬ (hG h v0 5) ≤ (hG h v0 11) → vp_in (hG h v0 11) n1)
    (H6 : ¬ nI 3 ≤ v2 → ¬ (hG h v0 5) ≤ (hG h v0 11) → (hG h q1 (hG h v0 11).toNatClampNeg) < (nI 48) → v2 ≤ 0 → Q (some (.int (nI 0))) h)
    (H7 : ¬ nI 3 ≤ v2 → ¬ (hG h v0 5) ≤ (hG h v0 11) → (hG h q1 (hG h v0 11).toNatClampNeg) < (nI 48) → ¬ v2 ≤ 0 → Q (some (.int (nI 1))) h)
    (H8 : ¬ nI 3 ≤ v2 → ¬ (hG h v0 5) ≤ (hG h v0 11) → ¬ (hG h q1 (hG h v0 11).toNatClampNeg) < (nI 48) → (nI 57) < (hG h q1 (hG h v0 11).toNatClampNeg) → v2 ≤ 0 → Q (some (.int (nI 0))) h)
    (H9 : ¬ nI 3 ≤ v2 → ¬ (hG h v0 5) ≤ (hG h v0 11) → ¬ (hG h q1 (hG h v0 11).toNatClampNeg) < (nI 48) → (nI 57) < (hG h q1 (hG h v0 11).toNatClampNeg) → ¬ v2 ≤ 0 → Q (some (.int (nI 1))) h)
    (B10 : ¬ nI 3 ≤ v2 → ¬ (hG h v0 5) ≤ (hG h v0 11) → ¬ (hG h q1 (hG h v0 11).toNatClampNeg) < (nI 48) → ¬ (nI 57) < (hG h q1 (hG h v0 11).toNatClampNeg) → vp_in (hG h v0 11) n1)
    (H11 : ¬ nI 3 ≤ v2 → ¬ (hG h v0 5) ≤ (hG h v0 11) → ¬ (hG h q1 (hG h v0 11).toNatClampNeg) < (nI 48) → ¬ (nI 57) < (hG h q1 (hG h v0 11).toNatClampNeg) → wpE 168 83 [some (.ref v0), some (.int v1), some (.int (v2 + nI 1))] [] (setG (setG h v0 15 ((nI 10 * (hG h v0 15)) + (v1 * ((hG h q1 (hG h v0 11).toNatClampNeg) - nI 48)))) v0 11 ((hG (setG h v0 15 ((nI 10 * (hG h v0 15)) + (v1 * ((hG h q1 (hG h v0 11).toNatClampNeg) - nI 48)))) v0 11) + nI 1)) (0, 0) Q) :
    wpE 168 22 [some (.ref v0), some (.int v1), some (.int v2)] [] h (0, 0) Q :=
  vc_s (ct := fun pc => Nat.beq pc 22 || Nat.beq pc 83) 1000 false (And.intro (fun c1 => (And.intro (fun c2 => (And.intro rfl (H1 c1 c2))) (fun c3 => (And.intro rfl (H2 c1 c3))))) (fun c4 => (And.intro k1 (And.intro k1 (And.intro (Nat.le_of_ble_eq_true rfl) (And.intro (Nat.le_of_ble_eq_true rfl) (And.intro (Nat.le_of_ble_eq_true rfl) (And.intro (Nat.le_of_ble_eq_true rfl) (r_M_character_0 (v0 := v0) (v1 := (hG h v0 11)) (q1 := q1) (n1 := n1) (h := h) k1 k2 k3 (fun c5 => (vc_s (ct := fun pc => Nat.beq pc 22 || Nat.beq pc 83) 1000 false (And.intro (Nat.le_of_ble_eq_true rfl) (And.intro (Nat.le_of_ble_eq_true rfl) (And.intro (Nat.le_of_ble_eq_true rfl) (And.intro (Nat.le_of_ble_eq_true rfl) (r_M_within_0 (v0 := (-(nI 1))) (v1 := (nI 48)) (v2 := (nI 57)) (h := h) (fun c6 => (vc_s (ct := fun pc => Nat.beq pc 22 || Nat.beq pc 83) 1000 false (And.intro (fun c7 => (And.intro (fun c8 => (And.intro rfl (H3 c4 c5 c8))) (fun c9 => (And.intro rfl (H4 c4 c5 c9))))) (fun c7 => absurd c7 (by decide))))) (fun c10 c11 => absurd c11 (by decide)) (fun c12 c13 => absurd c12 (by decide))))))))) (fun c14 => (B5 c4 c14)) (fun c15 => (vc_s (ct := fun pc => Nat.beq pc 22 || Nat.beq pc 83) 1000 false (And.intro (Nat.le_of_ble_eq_true rfl) (And.intro (Nat.le_of_ble_eq_true rfl) (And.intro (Nat.le_of_ble_eq_true rfl) (And.intro (Nat.le_of_ble_eq_true rfl) (r_M_within_0 (v0 := (hG h q1 (hG h v0 11).toNatClampNeg)) (v1 := (nI 48)) (v2 := (nI 57)) (h := h) (fun c16 => (vc_s (ct := fun pc => Nat.beq pc 22 || Nat.beq pc 83) 1000 false (And.intro (fun c17 => (And.intro (fun c18 => (And.intro rfl (H6 c4 c15 c16 c18))) (fun c19 => (And.intro rfl (H7 c4 c15 c16 c19))))) (fun c17 => absurd c17 (by decide))))) (fun c20 c21 => (vc_s (ct := fun pc => Nat.beq pc 22 || Nat.beq pc 83) 1000 false (And.intro (fun c22 => (And.intro (fun c23 => (And.intro rfl (H8 c4 c15 c20 c21 c23))) (fun c24 => (And.intro rfl (H9 c4 c15 c20 c21 c24))))) (fun c22 => absurd c22 (by decide))))) (fun c25 c26 => (vc_s (ct := fun pc => Nat.beq pc 22 || Nat.beq pc 83) 1000 false (And.intro (fun c27 => absurd c27 (by decide)) (fun c27 => (And.intro k1 (And.intro k1 (And.intro k1 (And.intro (Nat.le_of_ble_eq_true rfl) (And.intro (Nat.le_of_ble_eq_true rfl) (And.intro (Nat.le_of_ble_eq_true rfl) (And.intro (Nat.le_of_ble_eq_true rfl) (r_M_character_0 (v0 := v0) (v1 := (hG h v0 11)) (q1 := q1) (n1 := n1) (h := h) k1 k2 k3 (fun c28 => absurd c28 c15) (fun c29 => (B10 c4 c15 c25 c26)) (fun c30 => (vc_s (ct := fun pc => Nat.beq pc 22 || Nat.beq pc 83) 1000 false (And.intro k1 (And.intro rfl (And.intro (Nat.le_of_ble_eq_true rfl) (And.intro rfl (And.intro k1 (And.intro k1 (And.intro rfl (H11 c4 c15 c25 c26))))))))))))))))))))))))))))))))))))))
/-- SnapshotRingsModel.readsValue from 83 -/
theorem r_M_readsValue_83 {v0 : Nat} {v1 : Int32} {v2 : Int32} {h : sn_H} {Q : Option Value → sn_H → Prop}
    (H1 : wpE 168 22 [some (.ref v0), some (.int v1), some (.int v2)] [] h (0, 0) Q) :
    wpE 168 83 [some (.ref v0), some (.int v1), some (.int v2)] [] h (0, 0) Q :=
  vc_s (ct := fun pc => Nat.beq pc 22 || Nat.beq pc 83) 1000 false H1
/-- SnapshotRingsModel.readsStep from 0 -/
theorem r_M_readsStep_0 {v0 : Nat} {q1 : Nat} {n1 : Nat} {h : sn_H} {Q : Option Value → sn_H → Prop}
    (k1 : hK h v0 = (0, 5, 16))
    (k2 : hR h v0 4 = some q1)
    (k3 : hK h q1 = (1, 0, n1))
    (H1 : (hG h v0 5) ≤ (hG h v0 11) → (hG (setG h v0 12 (-(nI 1))) v0 12) = nI 98 → wpE 163 69 [some (.ref v0), none] [] (setG (setG h v0 12 (-(nI 1))) v0 11 ((hG (setG h v0 12 (-(nI 1))) v0 11) + nI 1)) (0, 0) Q)
    (H2 : (hG h v0 5) ≤ (hG h v0 11) → ¬ (hG (setG h v0 12 (-(nI 1))) v0 12) = nI 98 → (hG (setG h v0 12 (-(nI 1))) v0 12) = nI 114 → wpE 163 69 [some (.ref v0), none] [] (setG (setG h v0 12 (-(nI 1))) v0 11 ((hG (setG h v0 12 (-(nI 1))) v0 11) + nI 1)) (0, 0) Q)
    (H3 : (hG h v0 5) ≤ (hG h v0 11) → ¬ (hG (setG h v0 12 (-(nI 1))) v0 12) = nI 98 → ¬ (hG (setG h v0 12 (-(nI 1))) v0 12) = nI 114 → (hG (setG h v0 12 (-(nI 1))) v0 12) = nI 119 → wpE 163 69 [some (.ref v0), none] [] (setG (setG h v0 12 (-(nI 1))) v0 11 ((hG (setG h v0 12 (-(nI 1))) v0 11) + nI 1)) (0, 0) Q)
    (H4 : (hG h v0 5) ≤ (hG h v0 11) → ¬ (hG (setG h v0 12 (-(nI 1))) v0 12) = nI 98 → ¬ (hG (setG h v0 12 (-(nI 1))) v0 12) = nI 114 → ¬ (hG (setG h v0 12 (-(nI 1))) v0 12) = nI 119 → (hG (setG h v0 12 (-(nI 1))) v0 12) = nI 99 → wpE 163 69 [some (.ref v0), none] [] (setG (setG h v0 12 (-(nI 1))) v0 11 ((hG (setG h v0 12 (-(nI 1))) v0 11) + nI 1)) (0, 0) Q)
    (H5 : (hG h v0 5) ≤ (hG h v0 11) → ¬ (hG (setG h v0 12 (-(nI 1))) v0 12) = nI 98 → ¬ (hG (setG h v0 12 (-(nI 1))) v0 12) = nI 114 → ¬ (hG (setG h v0 12 (-(nI 1))) v0 12) = nI 119 → ¬ (hG (setG h v0 12 (-(nI 1))) v0 12) = nI 99 → (hG (setG h v0 12 (-(nI 1))) v0 12) = nI 97 → wpE 163 69 [some (.ref v0), none] [] (setG (setG h v0 12 (-(nI 1))) v0 11 ((hG (setG h v0 12 (-(nI 1))) v0 11) + nI 1)) (0, 0) Q)
    (H6 : (hG h v0 5) ≤ (hG h v0 11) → ¬ (hG (setG h v0 12 (-(nI 1))) v0 12) = nI 98 → ¬ (hG (setG h v0 12 (-(nI 1))) v0 12) = nI 114 → ¬ (hG (setG h v0 12 (-(nI 1))) v0 12) = nI 119 → ¬ (hG (setG h v0 12 (-(nI 1))) v0 12) = nI 99 → ¬ (hG (setG h v0 12 (-(nI 1))) v0 12) = nI 97 → Q (some (.int (nI 0))) (setG h v0 12 (-(nI 1))))
    (B7 : ¬ (hG h v0 5) ≤ (hG h v0 11) → vp_in (hG h v0 11) n1)
    (H8 : ¬ (hG h v0 5) ≤ (hG h v0 11) → (hG (setG h v0 12 (hG h q1 (hG h v0 11).toNatClampNeg)) v0 12) = nI 98 → wpE 163 69 [some (.ref v0), none] [] (setG (setG h v0 12 (hG h q1 (hG h v0 11).toNatClampNeg)) v0 11 ((hG (setG h v0 12 (hG h q1 (hG h v0 11).toNatClampNeg)) v0 11) + nI 1)) (0, 0) Q)
    (H9 : ¬ (hG h v0 5) ≤ (hG h v0 11) → ¬ (hG (setG h v0 12 (hG h q1 (hG h v0 11).toNatClampNeg)) v0 12) = nI 98 → (hG (setG h v0 12 (hG h q1 (hG h v0 11).toNatClampNeg)) v0 12) = nI 114 → wpE 163 69 [some (.ref v0), none] [] (setG (setG h v0 12 (hG h q1 (hG h v0 11).toNatClampNeg)) v0 11 ((hG (setG h v0 12 (hG h q1 (hG h v0 11).toNatClampNeg)) v0 11) + nI 1)) (0, 0) Q)
    (H10 : ¬ (hG h v0 5) ≤ (hG h v0 11) → ¬ (hG (setG h v0 12 (hG h q1 (hG h v0 11).toNatClampNeg)) v0 12) = nI 98 → ¬ (hG (setG h v0 12 (hG h q1 (hG h v0 11).toNatClampNeg)) v0 12) = nI 114 → (hG (setG h v0 12 (hG h q1 (hG h v0 11).toNatClampNeg)) v0 12) = nI 119 → wpE 163 69 [some (.ref v0), none] [] (setG (setG h v0 12 (hG h q1 (hG h v0 11).toNatClampNeg)) v0 11 ((hG (setG h v0 12 (hG h q1 (hG h v0 11).toNatClampNeg)) v0 11) + nI 1)) (0, 0) Q)
    (H11 : ¬ (hG h v0 5) ≤ (hG h v0 11) → ¬ (hG (setG h v0 12 (hG h q1 (hG h v0 11).toNatClampNeg)) v0 12) = nI 98 → ¬ (hG (setG h v0 12 (hG h q1 (hG h v0 11).toNatClampNeg)) v0 12) = nI 114 → ¬ (hG (setG h v0 12 (hG h q1 (hG h v0 11).toNatClampNeg)) v0 12) = nI 119 → (hG (setG h v0 12 (hG h q1 (hG h v0 11).toNatClampNeg)) v0 12) = nI 99 → wpE 163 69 [some (.ref v0), none] [] (setG (setG h v0 12 (hG h q1 (hG h v0 11).toNatClampNeg)) v0 11 ((hG (setG h v0 12 (hG h q1 (hG h v0 11).toNatClampNeg)) v0 11) + nI 1)) (0, 0) Q)
    (H12 : ¬ (hG h v0 5) ≤ (hG h v0 11) → ¬ (hG (setG h v0 12 (hG h q1 (hG h v0 11).toNatClampNeg)) v0 12) = nI 98 → ¬ (hG (setG h v0 12 (hG h q1 (hG h v0 11).toNatClampNeg)) v0 12) = nI 114 → ¬ (hG (setG h v0 12 (hG h q1 (hG h v0 11).toNatClampNeg)) v0 12) = nI 119 → ¬ (hG (setG h v0 12 (hG h q1 (hG h v0 11).toNatClampNeg)) v0 12) = nI 99 → (hG (setG h v0 12 (hG h q1 (hG h v0 11).toNatClampNeg)) v0 12) = nI 97 → wpE 163 69 [some (.ref v0), none] [] (setG (setG h v0 12 (hG h q1 (hG h v0 11).toNatClampNeg)) v0 11 ((hG (setG h v0 12 (hG h q1 (hG h v0 11).toNatClampNeg)) v0 11) + nI 1)) (0, 0) Q)
    (H13 : ¬ (hG h v0 5) ≤ (hG h v0 11) → ¬ (hG (setG h v0 12 (hG h q1 (hG h v0 11).toNatClampNeg)) v0 12) = nI 98 → ¬ (hG (setG h v0 12 (hG h q1 (hG h v0 11).toNatClampNeg)) v0 12) = nI 114 → ¬ (hG (setG h v0 12 (hG h q1 (hG h v0 11).toNatClampNeg)) v0 12) = nI 119 → ¬ (hG (setG h v0 12 (hG h q1 (hG h v0 11).toNatClampNeg)) v0 12) = nI 99 → ¬ (hG (setG h v0 12 (hG h q1 (hG h v0 11).toNatClampNeg)) v0 12) = nI 97 → Q (some (.int (nI 0))) (setG h v0 12 (hG h q1 (hG h v0 11).toNatClampNeg))) :
    wpE 163 0 [some (.ref v0), none] [] h (0, 0) Q :=
  vc_s (ct := fun pc => Nat.beq pc 69) 1000 false (And.intro k1 (And.intro k1 (And.intro (Nat.le_of_ble_eq_true rfl) (And.intro (Nat.le_of_ble_eq_true rfl) (And.intro (Nat.le_of_ble_eq_true rfl) (And.intro (Nat.le_of_ble_eq_true rfl) (r_M_character_0 (v0 := v0) (v1 := (hG h v0 11)) (q1 := q1) (n1 := n1) (h := h) k1 k2 k3 (fun c1 => (vc_s (ct := fun pc => Nat.beq pc 69) 1000 false (And.intro k1 (And.intro rfl (And.intro k1 (And.intro (fun c2 => (And.intro rfl (And.intro k1 (And.intro k1 (And.intro rfl (H1 c1 c2)))))) (fun c3 => (And.intro k1 (And.intro (fun c4 => (And.intro rfl (And.intro k1 (And.intro k1 (And.intro rfl (H2 c1 c3 c4)))))) (fun c5 => (And.intro k1 (And.intro (fun c6 => (And.intro rfl (And.intro k1 (And.intro k1 (And.intro rfl (H3 c1 c3 c5 c6)))))) (fun c7 => (And.intro k1 (And.intro (fun c8 => (And.intro rfl (And.intro k1 (And.intro k1 (And.intro rfl (H4 c1 c3 c5 c7 c8)))))) (fun c9 => (And.intro k1 (And.intro (fun c10 => (And.intro rfl (And.intro k1 (And.intro k1 (And.intro rfl (H5 c1 c3 c5 c7 c9 c10)))))) (fun c11 => (And.intro rfl (H6 c1 c3 c5 c7 c9 c11))))))))))))))))))))) (fun c12 => (B7 c12)) (fun c13 => (vc_s (ct := fun pc => Nat.beq pc 69) 1000 false (And.intro k1 (And.intro rfl (And.intro k1 (And.intro (fun c14 => (And.intro rfl (And.intro k1 (And.intro k1 (And.intro rfl (H8 c13 c14)))))) (fun c15 => (And.intro k1 (And.intro (fun c16 => (And.intro rfl (And.intro k1 (And.intro k1 (And.intro rfl (H9 c13 c15 c16)))))) (fun c17 => (And.intro k1 (And.intro (fun c18 => (And.intro rfl (And.intro k1 (And.intro k1 (And.intro rfl (H10 c13 c15 c17 c18)))))) (fun c19 => (And.intro k1 (And.intro (fun c20 => (And.intro rfl (And.intro k1 (And.intro k1 (And.intro rfl (H11 c13 c15 c17 c19 c20)))))) (fun c21 => (And.intro k1 (And.intro (fun c22 => (And.intro rfl (And.intro k1 (And.intro k1 (And.intro rfl (H12 c13 c15 c17 c19 c21 c22)))))) (fun c23 => (And.intro rfl (H13 c13 c15 c17 c19 c21 c23))))))))))))))))))))))))))))
/-- SnapshotRingsModel.readsStep from 69 -/
theorem r_M_readsStep_69 {v0 : Nat} {h : sn_H} {Q : Option Value → sn_H → Prop}
    (k1 : hK h v0 = (0, 5, 16))
    (H1 : wpE 165 0 [some (.ref v0), none] [] h (0, 0) (fun r hh => wpE 163 73 [some (.ref v0), none] (r.toList ++ []) hh (0, 0) Q)) :
    wpE 163 69 [some (.ref v0), none] [] h (0, 0) Q :=
  vc_s (ct := fun pc => Nat.beq pc 69) 1000 false (And.intro k1 (And.intro (Nat.le_of_ble_eq_true rfl) (And.intro (Nat.le_of_ble_eq_true rfl) (And.intro (Nat.le_of_ble_eq_true rfl) (And.intro (Nat.le_of_ble_eq_true rfl) H1)))))
/-- SnapshotRingsModel.readsStep from 73 -/
theorem r_M_readsStep_73 {v0 : Nat} {s0 : Int32} {h : sn_H} {Q : Option Value → sn_H → Prop}
    (k1 : hK h v0 = (0, 5, 16))
    (H1 : (hG h v0 12) = nI 114 → s0 = 0 → ¬ (hG h v0 12) = nI 119 → Q (some (.int (nI 0))) h)
    (H2 : (hG h v0 12) = nI 114 → s0 = 0 → (hG h v0 12) = nI 119 → Q (some (.int (nI 0))) h)
    (H3 : (hG h v0 12) = nI 114 → ¬ s0 = 0 → wpE 166 0 [some (.ref v0), none] [] h (0, 0) (fun r hh => wpE 163 100 [some (.ref v0), none] (r.toList ++ []) hh (0, 0) Q))
    (H4 : ¬ (hG h v0 12) = nI 114 → ¬ (hG h v0 12) = nI 119 → Q (some (.int s0)) h)
    (B5 : ¬ (hG h v0 12) = nI 114 → ¬ (hG h v0 12) = nI 119 → narrow .boolean (.int s0) = .int s0)
    (H6 : ¬ (hG h v0 12) = nI 114 → (hG h v0 12) = nI 119 → s0 = 0 → Q (some (.int (nI 0))) h)
    (H7 : ¬ (hG h v0 12) = nI 114 → (hG h v0 12) = nI 119 → ¬ s0 = 0 → wpE 166 0 [some (.ref v0), none] [] h (0, 0) (fun r hh => wpE 163 100 [some (.ref v0), none] (r.toList ++ []) hh (0, 0) Q)) :
    wpE 163 73 [some (.ref v0), none] [.int s0] h (0, 0) Q :=
  vc_s (ct := fun pc => Nat.beq pc 69) 1000 false (And.intro (Nat.le_of_ble_eq_true rfl) (And.intro k1 (And.intro (fun c1 => (And.intro (fun c2 => (And.intro (Nat.le_of_ble_eq_true rfl) (And.intro k1 (And.intro (fun c3 => (And.intro rfl (H1 c1 c2 c3))) (fun c4 => (And.intro (fun c5 => (And.intro rfl (H2 c1 c2 c4))) (fun c5 => absurd c5 (by decide)))))))) (fun c6 => (And.intro k1 (And.intro (Nat.le_of_ble_eq_true rfl) (And.intro (Nat.le_of_ble_eq_true rfl) (And.intro (Nat.le_of_ble_eq_true rfl) (And.intro (Nat.le_of_ble_eq_true rfl) (wpE_m (fun _ _ HH => @wpE_w _ _ [some (.ref v0), none] _ _ _ _ _ (show LeL [some (.ref v0), none] [some (.ref v0), some (.int s0)] from (And.intro rfl trivial)) HH) (H3 c1 c6)))))))))) (fun c7 => (And.intro k1 (And.intro (fun c8 => (And.intro k1 (And.intro (fun c9 => (And.intro (B5 c7 c8) (H4 c7 c8))) (fun c9 => absurd c9 c8)))) (fun c10 => (And.intro (fun c11 => (And.intro (Nat.le_of_ble_eq_true rfl) (And.intro k1 (And.intro (fun c12 => absurd c10 c12) (fun c12 => (And.intro (fun c13 => (And.intro rfl (H6 c7 c10 c11))) (fun c13 => absurd c13 (by decide)))))))) (fun c14 => (And.intro k1 (And.intro (Nat.le_of_ble_eq_true rfl) (And.intro (Nat.le_of_ble_eq_true rfl) (And.intro (Nat.le_of_ble_eq_true rfl) (And.intro (Nat.le_of_ble_eq_true rfl) (wpE_m (fun _ _ HH => @wpE_w _ _ [some (.ref v0), none] _ _ _ _ _ (show LeL [some (.ref v0), none] [some (.ref v0), some (.int s0)] from (And.intro rfl trivial)) HH) (H7 c7 c10 c14))))))))))))))))
/-- SnapshotRingsModel.readsStep from 100 -/
theorem r_M_readsStep_100 {v0 : Nat} {s0 : Int32} {h : sn_H} {Q : Option Value → sn_H → Prop}
    (k1 : hK h v0 = (0, 5, 16))
    (H1 : s0 = 0 → ¬ (hG h v0 12) = nI 119 → Q (some (.int (nI 0))) h)
    (H2 : s0 = 0 → (hG h v0 12) = nI 119 → Q (some (.int (nI 0))) h)
    (H3 : ¬ s0 = 0 → ¬ (hG h v0 12) = nI 119 → Q (some (.int (nI 1))) h)
    (H4 : ¬ s0 = 0 → (hG h v0 12) = nI 119 → wpE 167 0 [some (.ref v0), some (.int (nI 61)), none] [] h (0, 0) (fun r hh => wpE 163 128 [some (.ref v0), none] (r.toList ++ []) hh (0, 0) Q)) :
    wpE 163 100 [some (.ref v0), none] [.int s0] h (0, 0) Q :=
  vc_s (ct := fun pc => Nat.beq pc 69) 1000 false (And.intro (fun c1 => (And.intro (Nat.le_of_ble_eq_true rfl) (And.intro k1 (And.intro (fun c2 => (And.intro rfl (H1 c1 c2))) (fun c3 => (And.intro (fun c4 => (And.intro rfl (H2 c1 c3))) (fun c4 => absurd c4 (by decide)))))))) (fun c5 => (And.intro (Nat.le_of_ble_eq_true rfl) (And.intro k1 (And.intro (fun c6 => (And.intro rfl (H3 c5 c6))) (fun c7 => (And.intro (fun c8 => absurd c8 (by decide)) (fun c8 => (And.intro k1 (And.intro (Nat.le_of_ble_eq_true rfl) (And.intro (Nat.le_of_ble_eq_true rfl) (And.intro (Nat.le_of_ble_eq_true rfl) (And.intro (Nat.le_of_ble_eq_true rfl) (wpE_m (fun _ _ HH => @wpE_w _ _ [some (.ref v0), none] _ _ _ _ _ (show LeL [some (.ref v0), none] [some (.ref v0), some (.int (nI 1))] from (And.intro rfl trivial)) HH) (H4 c5 c7)))))))))))))))
/-- SnapshotRingsModel.readsStep from 128 -/
theorem r_M_readsStep_128 {v0 : Nat} {s0 : Int32} {h : sn_H} {Q : Option Value → sn_H → Prop}
    (k1 : hK h v0 = (0, 5, 16))
    (H1 : s0 = 0 → Q (some (.int (nI 0))) h)
    (H2 : ¬ s0 = 0 → wpE 168 0 [some (.ref v0), none, none] [] h (0, 0) (fun r hh => wpE 163 135 [none, none] (r.toList ++ []) hh (0, 0) Q)) :
    wpE 163 128 [some (.ref v0), none] [.int s0] h (0, 0) Q :=
  vc_s (ct := fun pc => Nat.beq pc 69) 1000 false (And.intro (fun c1 => (And.intro rfl (H1 c1))) (fun c2 => (And.intro k1 (And.intro (Nat.le_of_ble_eq_true rfl) (And.intro (Nat.le_of_ble_eq_true rfl) (And.intro (Nat.le_of_ble_eq_true rfl) (And.intro (Nat.le_of_ble_eq_true rfl) (wpE_m (fun _ _ HH => @wpE_w _ _ [none, none] _ _ _ _ _ (show LeL [none, none] [some (.ref v0), none] from trivial) HH) (H2 c2)))))))))
/-- SnapshotRingsModel.readsStep from 135 -/
theorem r_M_readsStep_135 {s0 : Int32} {h : sn_H} {Q : Option Value → sn_H → Prop}
    (H1 : s0 = 0 → Q (some (.int (nI 0))) h)
    (H2 : ¬ s0 = 0 → Q (some (.int (nI 1))) h) :
    wpE 163 135 [none, none] [.int s0] h (0, 0) Q :=
  vc_s (ct := fun pc => Nat.beq pc 69) 1000 false (And.intro (fun c1 => (And.intro rfl (H1 c1))) (fun c2 => (And.intro rfl (H2 c2))))
/-- SnapshotRingsModel.findError from 0 -/
theorem r_M_findError_0 {v0 : Nat} {h : sn_H} {Q : Option Value → sn_H → Prop}
    (k1 : hK h v0 = (0, 5, 16))
    (H1 : wpE 162 5 [some (.ref v0)] [] (setG h v0 11 (nI 0)) (0, 0) Q) :
    wpE 162 0 [some (.ref v0)] [] h (0, 0) Q :=
  vc_s (ct := fun pc => Nat.beq pc 5) 1000 false (And.intro k1 (And.intro rfl H1))
/-- SnapshotRingsModel.findError from 5 -/
theorem r_M_findError_5 {v0 : Nat} {h : sn_H} {Q : Option Value → sn_H → Prop}
    (k1 : hK h v0 = (0, 5, 16))
    (H1 : wpE 163 0 [some (.ref v0), none] [] h (0, 0) (fun r hh => wpE 162 9 [some (.ref v0)] (r.toList ++ []) hh (0, 0) Q)) :
    wpE 162 5 [some (.ref v0)] [] h (0, 0) Q :=
  vc_s (ct := fun pc => Nat.beq pc 5) 1000 false (And.intro k1 (And.intro (Nat.le_of_ble_eq_true rfl) (And.intro (Nat.le_of_ble_eq_true rfl) (And.intro (Nat.le_of_ble_eq_true rfl) (And.intro (Nat.le_of_ble_eq_true rfl) H1)))))
/-- SnapshotRingsModel.findError from 9 -/
theorem r_M_findError_9 {v0 : Nat} {s0 : Int32} {h : sn_H} {Q : Option Value → sn_H → Prop}
    (k1 : hK h v0 = (0, 5, 16))
    (H1 : ¬ s0 = 0 → ¬ (hG h v0 11) = (hG h v0 5) → wpE 167 0 [some (.ref v0), some (.int (nI 59)), none] [] h (0, 0) (fun r hh => wpE 162 38 [some (.ref v0)] (r.toList ++ []) hh (0, 0) Q))
    (H2 : ¬ s0 = 0 → (hG h v0 11) = (hG h v0 5) → Q (some (.int (-(nI 20006)))) h)
    (H3 : s0 = 0 → Q (some (.int (hG h v0 11))) h) :
    wpE 162 9 [some (.ref v0)] [.int s0] h (0, 0) Q :=
  vc_s (ct := fun pc => Nat.beq pc 5) 1000 false (And.intro (fun c1 => (And.intro k1 (And.intro k1 (And.intro (fun c2 => (And.intro k1 (And.intro (Nat.le_of_ble_eq_true rfl) (And.intro (Nat.le_of_ble_eq_true rfl) (And.intro (Nat.le_of_ble_eq_true rfl) (And.intro (Nat.le_of_ble_eq_true rfl) (H1 c1 c2))))))) (fun c3 => (H2 c1 c3)))))) (fun c4 => (And.intro k1 (H3 c4))))
/-- SnapshotRingsModel.findError from 38 -/
theorem r_M_findError_38 {v0 : Nat} {s0 : Int32} {h : sn_H} {Q : Option Value → sn_H → Prop}
    (k1 : hK h v0 = (0, 5, 16))
    (H1 : ¬ s0 = 0 → wpE 162 5 [some (.ref v0)] [] h (0, 0) Q)
    (H2 : s0 = 0 → Q (some (.int (hG h v0 11))) h) :
    wpE 162 38 [some (.ref v0)] [.int s0] h (0, 0) Q :=
  vc_s (ct := fun pc => Nat.beq pc 5) 1000 false (And.intro (fun c1 => (H1 c1)) (fun c2 => (And.intro k1 (H2 c2))))
/-- SnapshotRingsModel.syntaxError from 0 -/
theorem r_M_syntaxError_0 {v0 : Nat} {h : sn_H} {Q : Option Value → sn_H → Prop}
    (k1 : hK h v0 = (0, 5, 16))
    (H1 : wpE 162 0 [some (.ref v0)] [] h (0, 0) (fun r hh => wpE 161 4 [none] (r.toList ++ []) hh (0, 0) Q)) :
    wpE 161 0 [some (.ref v0)] [] h (0, 0) Q :=
  vc_s (ct := fun _ => false) 1000 false (And.intro k1 (And.intro (Nat.le_of_ble_eq_true rfl) (And.intro (Nat.le_of_ble_eq_true rfl) (And.intro (Nat.le_of_ble_eq_true rfl) (And.intro (Nat.le_of_ble_eq_true rfl) (wpE_m (fun _ _ HH => @wpE_w _ _ [none] _ _ _ _ _ (show LeL [none] [some (.ref v0)] from trivial) HH) H1))))))
/-- SnapshotRingsModel.syntaxError from 4 -/
theorem r_M_syntaxError_4 {s0 : Int32} {h : sn_H} {Q : Option Value → sn_H → Prop}
    (H1 : Q (some (.int s0)) h) :
    wpE 161 4 [none] [.int s0] h (0, 0) Q :=
  vc_s (ct := fun _ => false) 1000 false H1
/-- SnapshotRingsModel.whyNotDone from 0 -/
theorem r_M_whyNotDone_0 {v0 : Nat} {q1 : Nat} {n1 : Nat} {h : sn_H} {Q : Option Value → sn_H → Prop}
    (k1 : hK h v0 = (0, 5, 16))
    (k2 : hR h v0 0 = some q1)
    (k3 : hK h q1 = (1, 0, n1))
    (H1 : (hG h v0 12).toInt = 98 → wpE 95 0 [some (.ref v0), some (.int (hG h v0 13))] [] h (0, 0) (fun r hh => wpE 170 48 [none] (r.toList ++ []) hh (0, 0) Q))
    (H2 : ¬ (hG h v0 12).toInt = 98 → (hG h v0 12).toInt = 114 → wpE 106 0 [some (.ref v0), some (.int (hG h v0 13)), some (.int (hG h v0 14))] [] h (0, 0) (fun r hh => wpE 170 61 [none] (r.toList ++ []) hh (0, 0) Q))
    (H3 : ¬ (hG h v0 12).toInt = 98 → ¬ (hG h v0 12).toInt = 114 → (hG h v0 12).toInt = 119 → wpE 110 0 [some (.ref v0), some (.int (hG h v0 13)), some (.int (hG h v0 14)), some (.int (hG h v0 15))] [] h (0, 0) (fun r hh => wpE 170 78 [none] (r.toList ++ []) hh (0, 0) Q))
    (H4 : ¬ (hG h v0 12).toInt = 98 → ¬ (hG h v0 12).toInt = 114 → ¬ (hG h v0 12).toInt = 119 → (hG h v0 13) < (nI 0) → Q (some (.int (-(nI 20001)))) h)
    (H5 : ¬ (hG h v0 12).toInt = 98 → ¬ (hG h v0 12).toInt = 114 → ¬ (hG h v0 12).toInt = 119 → ¬ (hG h v0 13) < (nI 0) → (nI 7) < (hG h v0 13) → Q (some (.int (-(nI 20001)))) h)
    (B6 : ¬ (hG h v0 12).toInt = 98 → ¬ (hG h v0 12).toInt = 114 → ¬ (hG h v0 12).toInt = 119 → ¬ (hG h v0 13) < (nI 0) → ¬ (nI 7) < (hG h v0 13) → vp_in ((nI 36 + (nI 40 * (hG h v0 13))) + (nI 39)) n1)
    (H7 : ¬ (hG h v0 12).toInt = 98 → ¬ (hG h v0 12).toInt = 114 → ¬ (hG h v0 12).toInt = 119 → ¬ (hG h v0 13) < (nI 0) → ¬ (nI 7) < (hG h v0 13) → ¬ (hG h q1 ((nI 36 + (nI 40 * (hG h v0 13))) + (nI 39)).toNatClampNeg) = nI 1 → Q (some (.int (-(nI 20001)))) h)
    (H8 : ¬ (hG h v0 12).toInt = 98 → ¬ (hG h v0 12).toInt = 114 → ¬ (hG h v0 12).toInt = 119 → ¬ (hG h v0 13) < (nI 0) → ¬ (nI 7) < (hG h v0 13) → (hG h q1 ((nI 36 + (nI 40 * (hG h v0 13))) + (nI 39)).toNatClampNeg) = nI 1 → Q (some (.int (nI 0))) h) :
    wpE 170 0 [some (.ref v0)] [] h (0, 0) Q :=
  vc_s (ct := fun _ => false) 1000 false (And.intro k1 (And.intro (fun c1 => (And.intro k1 (And.intro k1 (And.intro (Nat.le_of_ble_eq_true rfl) (And.intro (Nat.le_of_ble_eq_true rfl) (And.intro (Nat.le_of_ble_eq_true rfl) (And.intro (Nat.le_of_ble_eq_true rfl) (wpE_m (fun _ _ HH => @wpE_w _ _ [none] _ _ _ _ _ (show LeL [none] [some (.ref v0)] from trivial) HH) (H1 c1))))))))) (fun c2 => (And.intro (fun c3 => (And.intro k1 (And.intro k1 (And.intro k1 (And.intro (Nat.le_of_ble_eq_true rfl) (And.intro (Nat.le_of_ble_eq_true rfl) (And.intro (Nat.le_of_ble_eq_true rfl) (And.intro (Nat.le_of_ble_eq_true rfl) (wpE_m (fun _ _ HH => @wpE_w _ _ [none] _ _ _ _ _ (show LeL [none] [some (.ref v0)] from trivial) HH) (H2 c2 c3)))))))))) (fun c4 => (And.intro (fun c5 => (And.intro k1 (And.intro k1 (And.intro k1 (And.intro k1 (And.intro (Nat.le_of_ble_eq_true rfl) (And.intro (Nat.le_of_ble_eq_true rfl) (And.intro (Nat.le_of_ble_eq_true rfl) (And.intro (Nat.le_of_ble_eq_true rfl) (wpE_m (fun _ _ HH => @wpE_w _ _ [none] _ _ _ _ _ (show LeL [none] [some (.ref v0)] from trivial) HH) (H3 c2 c4 c5))))))))))) (fun c6 => (And.intro k1 (And.intro k1 (And.intro (Nat.le_of_ble_eq_true rfl) (And.intro (Nat.le_of_ble_eq_true rfl) (And.intro (Nat.le_of_ble_eq_true rfl) (And.intro (Nat.le_of_ble_eq_true rfl) (r_M_whyNotOpen_0 (v0 := v0) (v1 := (hG h v0 13)) (q1 := q1) (n1 := n1) (h := h) k1 k2 k3 (fun c7 => (vc_s (ct := fun _ => false) 1000 false (H4 c2 c4 c6 c7))) (fun c8 c9 => (vc_s (ct := fun _ => false) 1000 false (H5 c2 c4 c6 c8 c9))) (fun c10 c11 => (B6 c2 c4 c6 c10 c11)) (fun c12 c13 c14 => (vc_s (ct := fun _ => false) 1000 false (H7 c2 c4 c6 c12 c13 c14))) (fun c15 c16 c17 => (vc_s (ct := fun _ => false) 1000 false (H8 c2 c4 c6 c15 c16 c17)))))))))))))))))
/-- SnapshotRingsModel.whyNotDone from 48 -/
theorem r_M_whyNotDone_48 {s0 : Int32} {h : sn_H} {Q : Option Value → sn_H → Prop}
    (H1 : Q (some (.int s0)) h) :
    wpE 170 48 [none] [.int s0] h (0, 0) Q :=
  vc_s (ct := fun _ => false) 1000 false H1
/-- SnapshotRingsModel.whyNotDone from 61 -/
theorem r_M_whyNotDone_61 {s0 : Int32} {h : sn_H} {Q : Option Value → sn_H → Prop}
    (H1 : Q (some (.int s0)) h) :
    wpE 170 61 [none] [.int s0] h (0, 0) Q :=
  vc_s (ct := fun _ => false) 1000 false H1
/-- SnapshotRingsModel.whyNotDone from 78 -/
theorem r_M_whyNotDone_78 {s0 : Int32} {h : sn_H} {Q : Option Value → sn_H → Prop}
    (H1 : Q (some (.int s0)) h) :
    wpE 170 78 [none] [.int s0] h (0, 0) Q :=
  vc_s (ct := fun _ => false) 1000 false H1
/-- SnapshotRingsModel.does from 0 -/
theorem r_M_does_0 {v0 : Nat} {h : sn_H} {Q : Option Value → sn_H → Prop}
    (k1 : hK h v0 = (0, 5, 16))
    (H1 : (hG h v0 12).toInt = 98 → wpE 102 0 [some (.ref v0), some (.int (hG h v0 13)), none] [] h (0, 0) (fun r hh => wpE 171 56 [none] (r.toList ++ []) hh (0, 0) Q))
    (H2 : ¬ (hG h v0 12).toInt = 98 → (hG h v0 12).toInt = 99 → wpE 115 0 [some (.ref v0), some (.int (hG h v0 13)), none, none] [] h (0, 0) (fun r hh => wpE 171 104 [none] (r.toList ++ []) hh (0, 0) Q))
    (H3 : ¬ (hG h v0 12).toInt = 98 → ¬ (hG h v0 12).toInt = 99 → (hG h v0 12).toInt = 114 → wpE 108 0 [some (.ref v0), some (.int (hG h v0 13)), some (.int (hG h v0 14))] [] h (0, 0) (fun r hh => wpE 171 72 [none] (r.toList ++ []) hh (0, 0) Q))
    (H4 : ¬ (hG h v0 12).toInt = 98 → ¬ (hG h v0 12).toInt = 99 → ¬ (hG h v0 12).toInt = 114 → (hG h v0 12).toInt = 119 → wpE 111 0 [some (.ref v0), some (.int (hG h v0 13)), some (.int (hG h v0 14)), some (.int (hG h v0 15))] [] h (0, 0) (fun r hh => wpE 171 92 [none] (r.toList ++ []) hh (0, 0) Q))
    (H5 : ¬ (hG h v0 12).toInt = 98 → ¬ (hG h v0 12).toInt = 99 → ¬ (hG h v0 12).toInt = 114 → ¬ (hG h v0 12).toInt = 119 → wpE 131 0 [some (.ref v0), some (.int (hG h v0 13)), none] [] h (0, 0) (fun r hh => wpE 171 116 [none] (r.toList ++ []) hh (0, 0) Q)) :
    wpE 171 0 [some (.ref v0)] [] h (0, 0) Q :=
  vc_s (ct := fun _ => false) 1000 false (And.intro k1 (And.intro (fun c1 => (And.intro k1 (And.intro k1 (And.intro (Nat.le_of_ble_eq_true rfl) (And.intro (Nat.le_of_ble_eq_true rfl) (And.intro (Nat.le_of_ble_eq_true rfl) (And.intro (Nat.le_of_ble_eq_true rfl) (wpE_m (fun _ _ HH => @wpE_w _ _ [none] _ _ _ _ _ (show LeL [none] [some (.ref v0)] from trivial) HH) (H1 c1))))))))) (fun c2 => (And.intro (fun c3 => (And.intro k1 (And.intro k1 (And.intro (Nat.le_of_ble_eq_true rfl) (And.intro (Nat.le_of_ble_eq_true rfl) (And.intro (Nat.le_of_ble_eq_true rfl) (And.intro (Nat.le_of_ble_eq_true rfl) (wpE_m (fun _ _ HH => @wpE_w _ _ [none] _ _ _ _ _ (show LeL [none] [some (.ref v0)] from trivial) HH) (H2 c2 c3))))))))) (fun c4 => (And.intro (fun c5 => (And.intro k1 (And.intro k1 (And.intro k1 (And.intro (Nat.le_of_ble_eq_true rfl) (And.intro (Nat.le_of_ble_eq_true rfl) (And.intro (Nat.le_of_ble_eq_true rfl) (And.intro (Nat.le_of_ble_eq_true rfl) (wpE_m (fun _ _ HH => @wpE_w _ _ [none] _ _ _ _ _ (show LeL [none] [some (.ref v0)] from trivial) HH) (H3 c2 c4 c5)))))))))) (fun c6 => (And.intro (fun c7 => (And.intro k1 (And.intro k1 (And.intro k1 (And.intro k1 (And.intro (Nat.le_of_ble_eq_true rfl) (And.intro (Nat.le_of_ble_eq_true rfl) (And.intro (Nat.le_of_ble_eq_true rfl) (And.intro (Nat.le_of_ble_eq_true rfl) (wpE_m (fun _ _ HH => @wpE_w _ _ [none] _ _ _ _ _ (show LeL [none] [some (.ref v0)] from trivial) HH) (H4 c2 c4 c6 c7))))))))))) (fun c8 => (And.intro k1 (And.intro k1 (And.intro (Nat.le_of_ble_eq_true rfl) (And.intro (Nat.le_of_ble_eq_true rfl) (And.intro (Nat.le_of_ble_eq_true rfl) (And.intro (Nat.le_of_ble_eq_true rfl) (wpE_m (fun _ _ HH => @wpE_w _ _ [none] _ _ _ _ _ (show LeL [none] [some (.ref v0)] from trivial) HH) (H5 c2 c4 c6 c8)))))))))))))))))
/-- SnapshotRingsModel.does from 56 -/
theorem r_M_does_56 {s0 : Int32} {h : sn_H} {Q : Option Value → sn_H → Prop}
    (H1 : Q none h) :
    wpE 171 56 [none] [.int s0] h (0, 0) Q :=
  vc_s (ct := fun _ => false) 1000 false (And.intro rfl (And.intro rfl H1))
/-- SnapshotRingsModel.does from 104 -/
theorem r_M_does_104 {s0 : Int32} {h : sn_H} {Q : Option Value → sn_H → Prop}
    (H1 : Q none h) :
    wpE 171 104 [none] [.int s0] h (0, 0) Q :=
  vc_s (ct := fun _ => false) 1000 false (And.intro rfl (And.intro rfl H1))
/-- SnapshotRingsModel.does from 72 -/
theorem r_M_does_72 {s0 : Int32} {h : sn_H} {Q : Option Value → sn_H → Prop}
    (H1 : Q none h) :
    wpE 171 72 [none] [.int s0] h (0, 0) Q :=
  vc_s (ct := fun _ => false) 1000 false (And.intro rfl (And.intro rfl H1))
/-- SnapshotRingsModel.does from 92 -/
theorem r_M_does_92 {s0 : Int32} {h : sn_H} {Q : Option Value → sn_H → Prop}
    (H1 : Q none h) :
    wpE 171 92 [none] [.int s0] h (0, 0) Q :=
  vc_s (ct := fun _ => false) 1000 false (And.intro rfl (And.intro rfl H1))
/-- SnapshotRingsModel.does from 116 -/
theorem r_M_does_116 {s0 : Int32} {h : sn_H} {Q : Option Value → sn_H → Prop}
    (H1 : Q none h) :
    wpE 171 116 [none] [.int s0] h (0, 0) Q :=
  vc_s (ct := fun _ => false) 1000 false (And.intro rfl (And.intro rfl H1))
/-- SnapshotRingsModel.carryOut from 0 -/
theorem r_M_carryOut_0 {v0 : Nat} {h : sn_H} {Q : Option Value → sn_H → Prop}
    (k1 : hK h v0 = (0, 5, 16))
    (H1 : wpE 162 0 [some (.ref v0)] [] h (0, 0) (fun r hh => wpE 169 4 [some (.ref v0), none, none] (r.toList ++ []) hh (0, 0) Q)) :
    wpE 169 0 [some (.ref v0), none, none] [] h (0, 0) Q :=
  vc_s (ct := fun pc => Nat.beq pc 27) 1000 false (And.intro k1 (And.intro (Nat.le_of_ble_eq_true rfl) (And.intro (Nat.le_of_ble_eq_true rfl) (And.intro (Nat.le_of_ble_eq_true rfl) (And.intro (Nat.le_of_ble_eq_true rfl) H1)))))
/-- SnapshotRingsModel.carryOut from 4 -/
theorem r_M_carryOut_4 {v0 : Nat} {s0 : Int32} {h : sn_H} {Q : Option Value → sn_H → Prop}
    (k1 : hK h v0 = (0, 5, 16))
    (H1 : s0 = -(nI 20006) → wpE 100 0 [some (.ref v0), none] [] h (0, 0) (fun r hh => wpE 169 18 [some (.ref v0), none, none] (r.toList ++ []) hh (0, 0) Q))
    (H2 : ¬ s0 = -(nI 20006) → Q (some (.int (-(nI 20005)))) h) :
    wpE 169 4 [some (.ref v0), none, none] [.int s0] h (0, 0) Q :=
  vc_s (ct := fun pc => Nat.beq pc 27) 1000 false (And.intro (fun c1 => (And.intro k1 (And.intro (Nat.le_of_ble_eq_true rfl) (And.intro (Nat.le_of_ble_eq_true rfl) (And.intro (Nat.le_of_ble_eq_true rfl) (And.intro (Nat.le_of_ble_eq_true rfl) (H1 c1))))))) (fun c2 => (H2 c2)))
/-- SnapshotRingsModel.carryOut from 18 -/
theorem r_M_carryOut_18 {v0 : Nat} {h : sn_H} {Q : Option Value → sn_H → Prop}
    (k1 : hK h v0 = (0, 5, 16))
    (H1 : wpE 169 27 [some (.ref v0), some (.int (nI 0)), some (.int (nI 1))] [] (setG h v0 11 (nI 0)) (0, 0) Q) :
    wpE 169 18 [some (.ref v0), none, none] [] h (0, 0) Q :=
  vc_s (ct := fun pc => Nat.beq pc 27) 1000 false (And.intro (Nat.le_of_ble_eq_true rfl) (And.intro k1 (And.intro rfl (And.intro (Nat.le_of_ble_eq_true rfl) H1))))
/-- SnapshotRingsModel.carryOut from 27 -/
theorem r_M_carryOut_27 {v0 : Nat} {v1 : Int32} {v2 : Int32} {h : sn_H} {Q : Option Value → sn_H → Prop}
    (k1 : hK h v0 = (0, 5, 16))
    (H1 : v2 = 0 → Q (some (.int v1)) (setG h v0 5 (nI 0)))
    (H2 : ¬ v2 = 0 → (hG h v0 5) ≤ (hG h v0 11) → Q (some (.int v1)) (setG h v0 5 (nI 0)))
    (H3 : ¬ v2 = 0 → ¬ (hG h v0 5) ≤ (hG h v0 11) → wpE 163 0 [some (.ref v0), none] [] h (0, 0) (fun r hh => wpE 169 46 [some (.ref v0), some (.int v1), none] (r.toList ++ []) hh (0, 0) Q)) :
    wpE 169 27 [some (.ref v0), some (.int v1), some (.int v2)] [] h (0, 0) Q :=
  vc_s (ct := fun pc => Nat.beq pc 27) 1000 false (And.intro (fun c1 => (And.intro k1 (And.intro rfl (H1 c1)))) (fun c2 => (And.intro k1 (And.intro k1 (And.intro (fun c3 => (And.intro k1 (And.intro rfl (H2 c2 c3)))) (fun c4 => (And.intro k1 (And.intro (Nat.le_of_ble_eq_true rfl) (And.intro (Nat.le_of_ble_eq_true rfl) (And.intro (Nat.le_of_ble_eq_true rfl) (And.intro (Nat.le_of_ble_eq_true rfl) (wpE_m (fun _ _ HH => @wpE_w _ _ [some (.ref v0), some (.int v1), none] _ _ _ _ _ (show LeL [some (.ref v0), some (.int v1), none] [some (.ref v0), some (.int v1), some (.int v2)] from (And.intro rfl (And.intro rfl trivial))) HH) (H3 c2 c4)))))))))))))
/-- SnapshotRingsModel.carryOut from 46 -/
theorem r_M_carryOut_46 {v0 : Nat} {v1 : Int32} {s0 : Int32} {h : sn_H} {Q : Option Value → sn_H → Prop}
    (k1 : hK h v0 = (0, 5, 16))
    (H1 : wpE 167 0 [some (.ref v0), some (.int (nI 59)), none] [] h (0, 0) (fun r hh => wpE 169 53 [some (.ref v0), some (.int v1), none] (r.toList ++ []) hh (0, 0) Q)) :
    wpE 169 46 [some (.ref v0), some (.int v1), none] [.int s0] h (0, 0) Q :=
  vc_s (ct := fun pc => Nat.beq pc 27) 1000 false (And.intro rfl (And.intro k1 (And.intro (Nat.le_of_ble_eq_true rfl) (And.intro (Nat.le_of_ble_eq_true rfl) (And.intro (Nat.le_of_ble_eq_true rfl) (And.intro (Nat.le_of_ble_eq_true rfl) H1))))))
/-- SnapshotRingsModel.carryOut from 53 -/
theorem r_M_carryOut_53 {v0 : Nat} {v1 : Int32} {s0 : Int32} {h : sn_H} {Q : Option Value → sn_H → Prop}
    (k1 : hK h v0 = (0, 5, 16))
    (H1 : wpE 170 0 [some (.ref v0)] [] h (0, 0) (fun r hh => wpE 169 58 [some (.ref v0), some (.int v1), none] (r.toList ++ []) hh (0, 0) Q)) :
    wpE 169 53 [some (.ref v0), some (.int v1), none] [.int s0] h (0, 0) Q :=
  vc_s (ct := fun pc => Nat.beq pc 27) 1000 false (And.intro rfl (And.intro k1 (And.intro (Nat.le_of_ble_eq_true rfl) (And.intro (Nat.le_of_ble_eq_true rfl) (And.intro (Nat.le_of_ble_eq_true rfl) (And.intro (Nat.le_of_ble_eq_true rfl) H1))))))
/-- SnapshotRingsModel.carryOut from 58 -/
theorem r_M_carryOut_58 {v0 : Nat} {v1 : Int32} {s0 : Int32} {h : sn_H} {Q : Option Value → sn_H → Prop}
    (k1 : hK h v0 = (0, 5, 16))
    (H1 : ¬ s0 = 0 → wpE 169 27 [some (.ref v0), some (.int v1), some (.int (nI 0))] [] h (0, 0) Q)
    (H2 : s0 = 0 → wpE 171 0 [some (.ref v0)] [] h (0, 0) (fun r hh => wpE 169 75 [some (.ref v0), some (.int v1), some (.int (nI 1))] (r.toList ++ []) hh (0, 0) Q)) :
    wpE 169 58 [some (.ref v0), some (.int v1), none] [.int s0] h (0, 0) Q :=
  vc_s (ct := fun pc => Nat.beq pc 27) 1000 false (And.intro (fun c1 => (And.intro (Nat.le_of_ble_eq_true rfl) (And.intro (fun c2 => (H1 c1)) (fun c2 => absurd c2 (by decide))))) (fun c3 => (And.intro (Nat.le_of_ble_eq_true rfl) (And.intro (fun c4 => absurd c4 (by decide)) (fun c4 => (And.intro k1 (And.intro (Nat.le_of_ble_eq_true rfl) (And.intro (Nat.le_of_ble_eq_true rfl) (And.intro (Nat.le_of_ble_eq_true rfl) (And.intro (Nat.le_of_ble_eq_true rfl) (H2 c3)))))))))))
/-- SnapshotRingsModel.carryOut from 75 -/
theorem r_M_carryOut_75 {v0 : Nat} {v1 : Int32} {v2 : Int32} {h : sn_H} {Q : Option Value → sn_H → Prop}
    (H1 : wpE 169 27 [some (.ref v0), some (.int (v1 + nI 1)), some (.int v2)] [] h (0, 0) Q) :
    wpE 169 75 [some (.ref v0), some (.int v1), some (.int v2)] [] h (0, 0) Q :=
  vc_s (ct := fun pc => Nat.beq pc 27) 1000 false (And.intro (Nat.le_of_ble_eq_true rfl) H1)
/-- SnapshotRingsModel.undo from 0 -/
theorem r_M_undo_0 {v0 : Nat} {q1 : Nat} {q2 : Nat} {h : sn_H} {Q : Option Value → sn_H → Prop}
    (k1 : hK h v0 = (0, 5, 16))
    (k2 : hR h v0 2 = some q1)
    (k3 : hR h v0 0 = some q2)
    (H1 : ¬ (hG h v0 3) = 0 → wpE 101 0 [some (.ref q1), some (.int ((hG (setG h v0 3 ((hG h v0 3) - nI 1)) v0 3) * nI 596)), some (.ref q2), some (.int (nI 0)), none] [] (setG h v0 3 ((hG h v0 3) - nI 1)) (0, 0) (fun r hh => wpE 172 41 [some (.ref v0)] (r.toList ++ []) hh (0, 0) Q))
    (H2 : (hG h v0 3) = 0 → Q (some (.int (-(nI 20003)))) h) :
    wpE 172 0 [some (.ref v0)] [] h (0, 0) Q :=
  vc_s (ct := fun _ => false) 1000 false (And.intro k1 (And.intro (fun c1 => (And.intro rfl (And.intro k1 (And.intro k1 (And.intro rfl (And.intro k1 (Exists.intro q1 (And.intro k2 (And.intro k1 (And.intro k1 (Exists.intro q2 (And.intro k3 (And.intro (Nat.le_of_ble_eq_true rfl) (And.intro (Nat.le_of_ble_eq_true rfl) (And.intro (Nat.le_of_ble_eq_true rfl) (And.intro (Nat.le_of_ble_eq_true rfl) (H1 c1))))))))))))))))) (fun c2 => (H2 c2))))
/-- SnapshotRingsModel.undo from 41 -/
theorem r_M_undo_41 {v0 : Nat} {h : sn_H} {Q : Option Value → sn_H → Prop}
    (k1 : hK h v0 = (0, 5, 16))
    (H1 : Q (some (.int (hG h v0 3))) h) :
    wpE 172 41 [some (.ref v0)] [] h (0, 0) Q :=
  vc_s (ct := fun _ => false) 1000 false (And.intro k1 H1)
/-- SnapshotRingsModel.digest from 0 -/
theorem r_M_digest_0 {v0 : Nat} {h : sn_H} {Q : Option Value → sn_H → Prop}
    (H1 : wpE 173 6 [some (.ref v0), some (.long (lN 368)), none, some (.int (nI 0)), none] [] h (0, 0) Q) :
    wpE 173 0 [some (.ref v0), none, none, none, none] [] h (0, 0) Q :=
  vc_s (ct := fun pc => Nat.beq pc 6 || Nat.beq pc 33 || Nat.beq pc 81 || Nat.beq pc 107 || Nat.beq pc 137 || Nat.beq pc 172 || Nat.beq pc 196 || Nat.beq pc 240 || Nat.beq pc 253 || Nat.beq pc 322 || Nat.beq pc 349) 1000 false (And.intro (Nat.le_of_ble_eq_true rfl) (And.intro (Nat.le_of_ble_eq_true rfl) H1))
/-- SnapshotRingsModel.digest from 6 -/
theorem r_M_digest_6 {v0 : Nat} {v1 : Int64} {v3 : Int32} {h : sn_H} {Q : Option Value → sn_H → Prop}
    (k1 : hK h v0 = (0, 5, 16))
    (H1 : nI 7 < v3 → wpE 173 33 [some (.ref v0), some (.long v1), none, some (.int (nI 0)), none] [] h (0, 0) Q)
    (H2 : ¬ nI 7 < v3 → wpE 136 0 [some (.ref v0), some (.int v3)] [] h (0, 0) (fun r hh => wpE 173 22 [some (.ref v0), none, none, some (.int v3), none] (r.toList ++ [.long (lN 31 * v1)]) hh (0, 0) Q)) :
    wpE 173 6 [some (.ref v0), some (.long v1), none, some (.int v3), none] [] h (0, 0) Q :=
  vc_s (ct := fun pc => Nat.beq pc 6 || Nat.beq pc 33 || Nat.beq pc 81 || Nat.beq pc 107 || Nat.beq pc 137 || Nat.beq pc 172 || Nat.beq pc 196 || Nat.beq pc 240 || Nat.beq pc 253 || Nat.beq pc 322 || Nat.beq pc 349) 1000 false (And.intro (fun c1 => (And.intro (Nat.le_of_ble_eq_true rfl) (H1 c1))) (fun c2 => (And.intro k1 (And.intro (Nat.le_of_ble_eq_true rfl) (And.intro (Nat.le_of_ble_eq_true rfl) (And.intro (Nat.le_of_ble_eq_true rfl) (And.intro (Nat.le_of_ble_eq_true rfl) (wpE_m (fun _ _ HH => @wpE_w _ _ [some (.ref v0), none, none, some (.int v3), none] _ _ _ _ _ (show LeL [some (.ref v0), none, none, some (.int v3), none] [some (.ref v0), some (.long v1), none, some (.int v3), none] from (And.intro rfl (And.intro rfl trivial))) HH) (H2 c2)))))))))
/-- SnapshotRingsModel.digest from 33 -/
theorem r_M_digest_33 {v0 : Nat} {v1 : Int64} {v3 : Int32} {q1 : Nat} {n1 : Nat} {h : sn_H} {Q : Option Value → sn_H → Prop}
    (k1 : hK h v0 = (0, 5, 16))
    (k2 : hR h v0 0 = some q1)
    (k3 : hK h q1 = (1, 0, n1))
    (H1 : nI 12 ≤ v3 → wpE 173 81 [some (.ref v0), some (.long v1), none, some (.int (nI 0)), none] [] h (0, 0) Q)
    (B2 : ¬ nI 12 ≤ v3 → vp_in (nI 12 + v3) n1)
    (B3 : ¬ nI 12 ≤ v3 → vp_in (nI 24 + v3) n1)
    (H4 : ¬ nI 12 ≤ v3 → wpE 173 33 [some (.ref v0), some (.long ((lN 31 * ((lN 31 * v1) + (hG h q1 (nI 12 + v3).toNatClampNeg).toInt64)) + (hG h q1 (nI 24 + v3).toNatClampNeg).toInt64)), none, some (.int (v3 + nI 1)), none] [] h (0, 0) Q) :
    wpE 173 33 [some (.ref v0), some (.long v1), none, some (.int v3), none] [] h (0, 0) Q :=
  vc_s (ct := fun pc => Nat.beq pc 6 || Nat.beq pc 33 || Nat.beq pc 81 || Nat.beq pc 107 || Nat.beq pc 137 || Nat.beq pc 172 || Nat.beq pc 196 || Nat.beq pc 240 || Nat.beq pc 253 || Nat.beq pc 322 || Nat.beq pc 349) 1000 false (And.intro (fun c1 => (And.intro (Nat.le_of_ble_eq_true rfl) (H1 c1))) (fun c2 => (And.intro k1 (Exists.intro q1 (And.intro k2 (Exists.intro 0 (Exists.intro n1 (And.intro k3 (And.intro (B2 c2) (And.intro (Nat.le_of_ble_eq_true rfl) (And.intro k1 (Exists.intro q1 (And.intro k2 (Exists.intro 0 (Exists.intro n1 (And.intro k3 (And.intro (B3 c2) (And.intro (Nat.le_of_ble_eq_true rfl) (And.intro (Nat.le_of_ble_eq_true rfl) (H4 c2))))))))))))))))))))
/-- SnapshotRingsModel.digest from 22 -/
theorem r_M_digest_22 {v0 : Nat} {v3 : Int32} {s0 : Int64} {s1 : Int32} {h : sn_H} {Q : Option Value → sn_H → Prop}
    (H1 : wpE 173 6 [some (.ref v0), some (.long (s0 + s1.toInt64)), none, some (.int (v3 + nI 1)), none] [] h (0, 0) Q) :
    wpE 173 22 [some (.ref v0), none, none, some (.int v3), none] [.int s1, .long s0] h (0, 0) Q :=
  vc_s (ct := fun pc => Nat.beq pc 6 || Nat.beq pc 33 || Nat.beq pc 81 || Nat.beq pc 107 || Nat.beq pc 137 || Nat.beq pc 172 || Nat.beq pc 196 || Nat.beq pc 240 || Nat.beq pc 253 || Nat.beq pc 322 || Nat.beq pc 349) 1000 false (And.intro (Nat.le_of_ble_eq_true rfl) (And.intro (Nat.le_of_ble_eq_true rfl) H1))
/-- SnapshotRingsModel.digest from 81 -/
theorem r_M_digest_81 {v0 : Nat} {v1 : Int64} {v3 : Int32} {q1 : Nat} {n1 : Nat} {h : sn_H} {Q : Option Value → sn_H → Prop}
    (k1 : hK h v0 = (0, 5, 16))
    (k2 : hR h v0 0 = some q1)
    (k3 : hK h q1 = (1, 0, n1))
    (H1 : nI 8 ≤ v3 → wpE 173 172 [some (.ref v0), some (.long v1), none, some (.int (nI 0)), none] [] h (0, 0) Q)
    (H2 : ¬ nI 8 ≤ v3 → v3 < (nI 0) → wpE 173 81 [some (.ref v0), some (.long v1), none, some (.int (v3 + nI 1)), none] [] h (0, 0) Q)
    (H3 : ¬ nI 8 ≤ v3 → ¬ v3 < (nI 0) → (nI 7) < v3 → wpE 173 81 [some (.ref v0), some (.long v1), none, some (.int (v3 + nI 1)), none] [] h (0, 0) Q)
    (B4 : ¬ nI 8 ≤ v3 → ¬ v3 < (nI 0) → ¬ (nI 7) < v3 → vp_in ((nI 36 + (nI 40 * v3)) + (nI 39)) n1)
    (H5 : ¬ nI 8 ≤ v3 → ¬ v3 < (nI 0) → ¬ (nI 7) < v3 → ¬ (hG h q1 ((nI 36 + (nI 40 * v3)) + (nI 39)).toNatClampNeg) = nI 1 → wpE 173 81 [some (.ref v0), some (.long v1), none, some (.int (v3 + nI 1)), none] [] h (0, 0) Q)
    (H6 : ¬ nI 8 ≤ v3 → ¬ v3 < (nI 0) → ¬ (nI 7) < v3 → (hG h q1 ((nI 36 + (nI 40 * v3)) + (nI 39)).toNatClampNeg) = nI 1 → wpE 173 107 [some (.ref v0), some (.long ((lN 31 * v1) + v3.toInt64)), none, some (.int v3), some (.int (nI 0))] [] h (0, 0) Q) :
    wpE 173 81 [some (.ref v0), some (.long v1), none, some (.int v3), none] [] h (0, 0) Q :=
  vc_s (ct := fun pc => Nat.beq pc 6 || Nat.beq pc 33 || Nat.beq pc 81 || Nat.beq pc 107 || Nat.beq pc 137 || Nat.beq pc 172 || Nat.beq pc 196 || Nat.beq pc 240 || Nat.beq pc 253 || Nat.beq pc 322 || Nat.beq pc 349) 1000 false (And.intro (fun c1 => (And.intro (Nat.le_of_ble_eq_true rfl) (H1 c1))) (fun c2 => (And.intro k1 (And.intro (Nat.le_of_ble_eq_true rfl) (And.intro (Nat.le_of_ble_eq_true rfl) (And.intro (Nat.le_of_ble_eq_true rfl) (And.intro (Nat.le_of_ble_eq_true rfl) (r_M_isOpen_0 (v0 := v0) (v1 := v3) (q1 := q1) (n1 := n1) (h := h) k1 k2 k3 (fun c3 => (vc_s (ct := fun pc => Nat.beq pc 6 || Nat.beq pc 33 || Nat.beq pc 81 || Nat.beq pc 107 || Nat.beq pc 137 || Nat.beq pc 172 || Nat.beq pc 196 || Nat.beq pc 240 || Nat.beq pc 253 || Nat.beq pc 322 || Nat.beq pc 349) 1000 false (And.intro (fun c4 => (And.intro (Nat.le_of_ble_eq_true rfl) (H2 c2 c3))) (fun c4 => absurd c4 (by decide))))) (fun c5 c6 => (vc_s (ct := fun pc => Nat.beq pc 6 || Nat.beq pc 33 || Nat.beq pc 81 || Nat.beq pc 107 || Nat.beq pc 137 || Nat.beq pc 172 || Nat.beq pc 196 || Nat.beq pc 240 || Nat.beq pc 253 || Nat.beq pc 322 || Nat.beq pc 349) 1000 false (And.intro (fun c7 => (And.intro (Nat.le_of_ble_eq_true rfl) (H3 c2 c5 c6))) (fun c7 => absurd c7 (by decide))))) (fun c8 c9 => (B4 c2 c8 c9)) (fun c10 c11 c12 => (vc_s (ct := fun pc => Nat.beq pc 6 || Nat.beq pc 33 || Nat.beq pc 81 || Nat.beq pc 107 || Nat.beq pc 137 || Nat.beq pc 172 || Nat.beq pc 196 || Nat.beq pc 240 || Nat.beq pc 253 || Nat.beq pc 322 || Nat.beq pc 349) 1000 false (And.intro (fun c13 => (And.intro (Nat.le_of_ble_eq_true rfl) (H5 c2 c10 c11 c12))) (fun c13 => absurd c13 (by decide))))) (fun c14 c15 c16 => (vc_s (ct := fun pc => Nat.beq pc 6 || Nat.beq pc 33 || Nat.beq pc 81 || Nat.beq pc 107 || Nat.beq pc 137 || Nat.beq pc 172 || Nat.beq pc 196 || Nat.beq pc 240 || Nat.beq pc 253 || Nat.beq pc 322 || Nat.beq pc 349) 1000 false (And.intro (fun c17 => absurd c17 (by decide)) (fun c17 => (And.intro (Nat.le_of_ble_eq_true rfl) (And.intro (Nat.le_of_ble_eq_true rfl) (H6 c2 c14 c15 c16)))))))))))))))
/-- SnapshotRingsModel.digest from 172 -/
theorem r_M_digest_172 {v0 : Nat} {v1 : Int64} {v3 : Int32} {h : sn_H} {Q : Option Value → sn_H → Prop}
    (k1 : hK h v0 = (0, 5, 16))
    (H1 : wpE 121 0 [some (.ref v0)] [] h (0, 0) (fun r hh => wpE 173 177 [some (.ref v0), some (.long v1), none, some (.int v3), none] (r.toList ++ [.int v3]) hh (0, 0) Q)) :
    wpE 173 172 [some (.ref v0), some (.long v1), none, some (.int v3), none] [] h (0, 0) Q :=
  vc_s (ct := fun pc => Nat.beq pc 6 || Nat.beq pc 33 || Nat.beq pc 81 || Nat.beq pc 107 || Nat.beq pc 137 || Nat.beq pc 172 || Nat.beq pc 196 || Nat.beq pc 240 || Nat.beq pc 253 || Nat.beq pc 322 || Nat.beq pc 349) 1000 false (And.intro k1 (And.intro (Nat.le_of_ble_eq_true rfl) (And.intro (Nat.le_of_ble_eq_true rfl) (And.intro (Nat.le_of_ble_eq_true rfl) (And.intro (Nat.le_of_ble_eq_true rfl) H1)))))
/-- SnapshotRingsModel.digest from 107 -/
theorem r_M_digest_107 {v0 : Nat} {v1 : Int64} {v3 : Int32} {v4 : Int32} {h : sn_H} {Q : Option Value → sn_H → Prop}
    (k1 : hK h v0 = (0, 5, 16))
    (H1 : nI 3 < v4 → wpE 173 137 [some (.ref v0), some (.long v1), none, some (.int v3), some (.int (nI 0))] [] h (0, 0) Q)
    (H2 : ¬ nI 3 < v4 → wpE 141 0 [some (.ref v0), some (.int v3), some (.int v4)] [] h (0, 0) (fun r hh => wpE 173 125 [some (.ref v0), none, none, some (.int v3), some (.int v4)] (r.toList ++ [.long (lN 31 * v1)]) hh (0, 0) Q)) :
    wpE 173 107 [some (.ref v0), some (.long v1), none, some (.int v3), some (.int v4)] [] h (0, 0) Q :=
  vc_s (ct := fun pc => Nat.beq pc 6 || Nat.beq pc 33 || Nat.beq pc 81 || Nat.beq pc 107 || Nat.beq pc 137 || Nat.beq pc 172 || Nat.beq pc 196 || Nat.beq pc 240 || Nat.beq pc 253 || Nat.beq pc 322 || Nat.beq pc 349) 1000 false (And.intro (fun c1 => (And.intro (Nat.le_of_ble_eq_true rfl) (H1 c1))) (fun c2 => (And.intro k1 (And.intro (Nat.le_of_ble_eq_true rfl) (And.intro (Nat.le_of_ble_eq_true rfl) (And.intro (Nat.le_of_ble_eq_true rfl) (And.intro (Nat.le_of_ble_eq_true rfl) (wpE_m (fun _ _ HH => @wpE_w _ _ [some (.ref v0), none, none, some (.int v3), some (.int v4)] _ _ _ _ _ (show LeL [some (.ref v0), none, none, some (.int v3), some (.int v4)] [some (.ref v0), some (.long v1), none, some (.int v3), some (.int v4)] from (And.intro rfl (And.intro rfl (And.intro rfl trivial)))) HH) (H2 c2)))))))))
/-- SnapshotRingsModel.digest from 177 -/
theorem r_M_digest_177 {v0 : Nat} {v1 : Int64} {v3 : Int32} {s0 : Int32} {s1 : Int32} {h : sn_H} {Q : Option Value → sn_H → Prop}
    (k1 : hK h v0 = (0, 5, 16))
    (H1 : s1 ≤ s0 → wpE 173 240 [some (.ref v0), some (.long v1), none, some (.int (nI 0)), none] [] h (0, 0) Q)
    (H2 : ¬ s1 ≤ s0 → wpE 124 0 [some (.ref v0), some (.int v3)] [] h (0, 0) (fun r hh => wpE 173 190 [some (.ref v0), none, none, some (.int v3), none] (r.toList ++ [.long (lN 31 * v1)]) hh (0, 0) Q)) :
    wpE 173 177 [some (.ref v0), some (.long v1), none, some (.int v3), none] [.int s1, .int s0] h (0, 0) Q :=
  vc_s (ct := fun pc => Nat.beq pc 6 || Nat.beq pc 33 || Nat.beq pc 81 || Nat.beq pc 107 || Nat.beq pc 137 || Nat.beq pc 172 || Nat.beq pc 196 || Nat.beq pc 240 || Nat.beq pc 253 || Nat.beq pc 322 || Nat.beq pc 349) 1000 false (And.intro (fun c1 => (And.intro (Nat.le_of_ble_eq_true rfl) (H1 c1))) (fun c2 => (And.intro k1 (And.intro (Nat.le_of_ble_eq_true rfl) (And.intro (Nat.le_of_ble_eq_true rfl) (And.intro (Nat.le_of_ble_eq_true rfl) (And.intro (Nat.le_of_ble_eq_true rfl) (wpE_m (fun _ _ HH => @wpE_w _ _ [some (.ref v0), none, none, some (.int v3), none] _ _ _ _ _ (show LeL [some (.ref v0), none, none, some (.int v3), none] [some (.ref v0), some (.long v1), none, some (.int v3), none] from (And.intro rfl (And.intro rfl trivial))) HH) (H2 c2)))))))))
/-- SnapshotRingsModel.digest from 137 -/
theorem r_M_digest_137 {v0 : Nat} {v1 : Int64} {v3 : Int32} {v4 : Int32} {h : sn_H} {Q : Option Value → sn_H → Prop}
    (k1 : hK h v0 = (0, 5, 16))
    (H1 : nI 3 ≤ v4 → wpE 173 81 [some (.ref v0), some (.long v1), none, some (.int (v3 + nI 1)), none] [] h (0, 0) Q)
    (H2 : ¬ nI 3 ≤ v4 → wpE 156 0 [some (.ref v0), some (.int v3), some (.int v4), none, none, none] [] h (0, 0) (fun r hh => wpE 173 155 [some (.ref v0), none, none, some (.int v3), some (.int v4)] (r.toList ++ [.long (lN 31 * v1)]) hh (0, 0) Q)) :
    wpE 173 137 [some (.ref v0), some (.long v1), none, some (.int v3), some (.int v4)] [] h (0, 0) Q :=
  vc_s (ct := fun pc => Nat.beq pc 6 || Nat.beq pc 33 || Nat.beq pc 81 || Nat.beq pc 107 || Nat.beq pc 137 || Nat.beq pc 172 || Nat.beq pc 196 || Nat.beq pc 240 || Nat.beq pc 253 || Nat.beq pc 322 || Nat.beq pc 349) 1000 false (And.intro (fun c1 => (And.intro (Nat.le_of_ble_eq_true rfl) (@wpE_w _ _ [some (.ref v0), some (.long v1), none, some (.int (v3 + nI 1)), none] _ _ _ _ _ (show LeL [some (.ref v0), some (.long v1), none, some (.int (v3 + nI 1)), none] [some (.ref v0), some (.long v1), none, some (.int (v3 + nI 1)), some (.int v4)] from (And.intro rfl (And.intro rfl (And.intro rfl trivial)))) (H1 c1)))) (fun c2 => (And.intro k1 (And.intro (Nat.le_of_ble_eq_true rfl) (And.intro (Nat.le_of_ble_eq_true rfl) (And.intro (Nat.le_of_ble_eq_true rfl) (And.intro (Nat.le_of_ble_eq_true rfl) (wpE_m (fun _ _ HH => @wpE_w _ _ [some (.ref v0), none, none, some (.int v3), some (.int v4)] _ _ _ _ _ (show LeL [some (.ref v0), none, none, some (.int v3), some (.int v4)] [some (.ref v0), some (.long v1), none, some (.int v3), some (.int v4)] from (And.intro rfl (And.intro rfl (And.intro rfl trivial)))) HH) (H2 c2)))))))))
/-- SnapshotRingsModel.digest from 125 -/
theorem r_M_digest_125 {v0 : Nat} {v3 : Int32} {v4 : Int32} {s0 : Int64} {s1 : Int32} {h : sn_H} {Q : Option Value → sn_H → Prop}
    (H1 : wpE 173 107 [some (.ref v0), some (.long (s0 + s1.toInt64)), none, some (.int v3), some (.int (v4 + nI 1))] [] h (0, 0) Q) :
    wpE 173 125 [some (.ref v0), none, none, some (.int v3), some (.int v4)] [.int s1, .long s0] h (0, 0) Q :=
  vc_s (ct := fun pc => Nat.beq pc 6 || Nat.beq pc 33 || Nat.beq pc 81 || Nat.beq pc 107 || Nat.beq pc 137 || Nat.beq pc 172 || Nat.beq pc 196 || Nat.beq pc 240 || Nat.beq pc 253 || Nat.beq pc 322 || Nat.beq pc 349) 1000 false (And.intro (Nat.le_of_ble_eq_true rfl) (And.intro (Nat.le_of_ble_eq_true rfl) H1))
/-- SnapshotRingsModel.digest from 240 -/
theorem r_M_digest_240 {v0 : Nat} {v1 : Int64} {v3 : Int32} {h : sn_H} {Q : Option Value → sn_H → Prop}
    (k1 : hK h v0 = (0, 5, 16))
    (H1 : wpE 121 0 [some (.ref v0)] [] h (0, 0) (fun r hh => wpE 173 245 [some (.ref v0), some (.long v1), none, some (.int v3), none] (r.toList ++ [.int v3]) hh (0, 0) Q)) :
    wpE 173 240 [some (.ref v0), some (.long v1), none, some (.int v3), none] [] h (0, 0) Q :=
  vc_s (ct := fun pc => Nat.beq pc 6 || Nat.beq pc 33 || Nat.beq pc 81 || Nat.beq pc 107 || Nat.beq pc 137 || Nat.beq pc 172 || Nat.beq pc 196 || Nat.beq pc 240 || Nat.beq pc 253 || Nat.beq pc 322 || Nat.beq pc 349) 1000 false (And.intro k1 (And.intro (Nat.le_of_ble_eq_true rfl) (And.intro (Nat.le_of_ble_eq_true rfl) (And.intro (Nat.le_of_ble_eq_true rfl) (And.intro (Nat.le_of_ble_eq_true rfl) H1)))))
/-- SnapshotRingsModel.digest from 190 -/
theorem r_M_digest_190 {v0 : Nat} {v3 : Int32} {s0 : Int64} {s1 : Int32} {h : sn_H} {Q : Option Value → sn_H → Prop}
    (H1 : wpE 173 196 [some (.ref v0), some (.long (s0 + s1.toInt64)), none, some (.int v3), some (.int (nI 0))] [] h (0, 0) Q) :
    wpE 173 190 [some (.ref v0), none, none, some (.int v3), none] [.int s1, .long s0] h (0, 0) Q :=
  vc_s (ct := fun pc => Nat.beq pc 6 || Nat.beq pc 33 || Nat.beq pc 81 || Nat.beq pc 107 || Nat.beq pc 137 || Nat.beq pc 172 || Nat.beq pc 196 || Nat.beq pc 240 || Nat.beq pc 253 || Nat.beq pc 322 || Nat.beq pc 349) 1000 false (And.intro (Nat.le_of_ble_eq_true rfl) (And.intro (Nat.le_of_ble_eq_true rfl) H1))
/-- SnapshotRingsModel.digest from 155 -/
theorem r_M_digest_155 {v0 : Nat} {v3 : Int32} {v4 : Int32} {s0 : Int64} {s1 : Int32} {h : sn_H} {Q : Option Value → sn_H → Prop}
    (H1 : wpE 173 137 [some (.ref v0), some (.long (s0 + s1.toInt64)), none, some (.int v3), some (.int (v4 + nI 1))] [] h (0, 0) Q) :
    wpE 173 155 [some (.ref v0), none, none, some (.int v3), some (.int v4)] [.int s1, .long s0] h (0, 0) Q :=
  vc_s (ct := fun pc => Nat.beq pc 6 || Nat.beq pc 33 || Nat.beq pc 81 || Nat.beq pc 107 || Nat.beq pc 137 || Nat.beq pc 172 || Nat.beq pc 196 || Nat.beq pc 240 || Nat.beq pc 253 || Nat.beq pc 322 || Nat.beq pc 349) 1000 false (And.intro (Nat.le_of_ble_eq_true rfl) (And.intro (Nat.le_of_ble_eq_true rfl) H1))
/-- SnapshotRingsModel.digest from 245 -/
theorem r_M_digest_245 {v0 : Nat} {v1 : Int64} {v3 : Int32} {s0 : Int32} {s1 : Int32} {h : sn_H} {Q : Option Value → sn_H → Prop}
    (k1 : hK h v0 = (0, 5, 16))
    (H1 : s1 ≤ s0 → wpE 147 0 [some (.ref v0), none, none] [] h (0, 0) (fun r hh => wpE 173 313 [some (.ref v0), none, none, none, none] (r.toList ++ [.long (lN 31 * v1)]) hh (0, 0) Q))
    (H2 : ¬ s1 ≤ s0 → wpE 173 253 [some (.ref v0), some (.long v1), none, some (.int v3), some (.int (v3 + nI 1))] [] h (0, 0) Q) :
    wpE 173 245 [some (.ref v0), some (.long v1), none, some (.int v3), none] [.int s1, .int s0] h (0, 0) Q :=
  vc_s (ct := fun pc => Nat.beq pc 6 || Nat.beq pc 33 || Nat.beq pc 81 || Nat.beq pc 107 || Nat.beq pc 137 || Nat.beq pc 172 || Nat.beq pc 196 || Nat.beq pc 240 || Nat.beq pc 253 || Nat.beq pc 322 || Nat.beq pc 349) 1000 false (And.intro (fun c1 => (And.intro k1 (And.intro (Nat.le_of_ble_eq_true rfl) (And.intro (Nat.le_of_ble_eq_true rfl) (And.intro (Nat.le_of_ble_eq_true rfl) (And.intro (Nat.le_of_ble_eq_true rfl) (wpE_m (fun _ _ HH => @wpE_w _ _ [some (.ref v0), none, none, none, none] _ _ _ _ _ (show LeL [some (.ref v0), none, none, none, none] [some (.ref v0), some (.long v1), none, some (.int v3), none] from (And.intro rfl trivial)) HH) (H1 c1)))))))) (fun c2 => (And.intro (Nat.le_of_ble_eq_true rfl) (H2 c2))))
/-- SnapshotRingsModel.digest from 196 -/
theorem r_M_digest_196 {v0 : Nat} {v1 : Int64} {v3 : Int32} {v4 : Int32} {q1 : Nat} {h : sn_H} {Q : Option Value → sn_H → Prop}
    (k1 : hK h v0 = (0, 5, 16))
    (k2 : hR h v0 0 = some q1)
    (H1 : nI 2 < v4 → wpE 173 172 [some (.ref v0), some (.long v1), none, some (.int (v3 + nI 1)), none] [] h (0, 0) Q)
    (H2 : ¬ nI 2 < v4 → wpE 124 0 [some (.ref v0), some (.int v3)] [] h (0, 0) (fun r hh => wpE 173 216 [some (.ref v0), none, none, some (.int v3), some (.int v4)] (r.toList ++ [.ref q1, .long (lN 31 * v1)]) hh (0, 0) Q)) :
    wpE 173 196 [some (.ref v0), some (.long v1), none, some (.int v3), some (.int v4)] [] h (0, 0) Q :=
  vc_s (ct := fun pc => Nat.beq pc 6 || Nat.beq pc 33 || Nat.beq pc 81 || Nat.beq pc 107 || Nat.beq pc 137 || Nat.beq pc 172 || Nat.beq pc 196 || Nat.beq pc 240 || Nat.beq pc 253 || Nat.beq pc 322 || Nat.beq pc 349) 1000 false (And.intro (fun c1 => (And.intro (Nat.le_of_ble_eq_true rfl) (@wpE_w _ _ [some (.ref v0), some (.long v1), none, some (.int (v3 + nI 1)), none] _ _ _ _ _ (show LeL [some (.ref v0), some (.long v1), none, some (.int (v3 + nI 1)), none] [some (.ref v0), some (.long v1), none, some (.int (v3 + nI 1)), some (.int v4)] from (And.intro rfl (And.intro rfl (And.intro rfl trivial)))) (H1 c1)))) (fun c2 => (And.intro k1 (Exists.intro q1 (And.intro k2 (And.intro k1 (And.intro (Nat.le_of_ble_eq_true rfl) (And.intro (Nat.le_of_ble_eq_true rfl) (And.intro (Nat.le_of_ble_eq_true rfl) (And.intro (Nat.le_of_ble_eq_true rfl) (wpE_m (fun _ _ HH => @wpE_w _ _ [some (.ref v0), none, none, some (.int v3), some (.int v4)] _ _ _ _ _ (show LeL [some (.ref v0), none, none, some (.int v3), some (.int v4)] [some (.ref v0), some (.long v1), none, some (.int v3), some (.int v4)] from (And.intro rfl (And.intro rfl (And.intro rfl trivial)))) HH) (H2 c2))))))))))))
/-- SnapshotRingsModel.digest from 313 -/
theorem r_M_digest_313 {v0 : Nat} {s0 : Int64} {s1 : Int32} {h : sn_H} {Q : Option Value → sn_H → Prop}
    (k1 : hK h v0 = (0, 5, 16))
    (H1 : wpE 150 0 [some (.ref v0), none, none, none, none, none, none] [] h (0, 0) (fun r hh => wpE 173 320 [some (.ref v0), some (.long (s0 + s1.toInt64)), none, none, none] (r.toList ++ []) hh (0, 0) Q)) :
    wpE 173 313 [some (.ref v0), none, none, none, none] [.int s1, .long s0] h (0, 0) Q :=
  vc_s (ct := fun pc => Nat.beq pc 6 || Nat.beq pc 33 || Nat.beq pc 81 || Nat.beq pc 107 || Nat.beq pc 137 || Nat.beq pc 172 || Nat.beq pc 196 || Nat.beq pc 240 || Nat.beq pc 253 || Nat.beq pc 322 || Nat.beq pc 349) 1000 false (And.intro (Nat.le_of_ble_eq_true rfl) (And.intro k1 (And.intro (Nat.le_of_ble_eq_true rfl) (And.intro (Nat.le_of_ble_eq_true rfl) (And.intro (Nat.le_of_ble_eq_true rfl) (And.intro (Nat.le_of_ble_eq_true rfl) H1))))))
/-- SnapshotRingsModel.digest from 253 -/
theorem r_M_digest_253 {v0 : Nat} {v1 : Int64} {v3 : Int32} {v4 : Int32} {h : sn_H} {Q : Option Value → sn_H → Prop}
    (k1 : hK h v0 = (0, 5, 16))
    (H1 : wpE 121 0 [some (.ref v0)] [] h (0, 0) (fun r hh => wpE 173 259 [some (.ref v0), some (.long v1), none, some (.int v3), some (.int v4)] (r.toList ++ [.int v4]) hh (0, 0) Q)) :
    wpE 173 253 [some (.ref v0), some (.long v1), none, some (.int v3), some (.int v4)] [] h (0, 0) Q :=
  vc_s (ct := fun pc => Nat.beq pc 6 || Nat.beq pc 33 || Nat.beq pc 81 || Nat.beq pc 107 || Nat.beq pc 137 || Nat.beq pc 172 || Nat.beq pc 196 || Nat.beq pc 240 || Nat.beq pc 253 || Nat.beq pc 322 || Nat.beq pc 349) 1000 false (And.intro k1 (And.intro (Nat.le_of_ble_eq_true rfl) (And.intro (Nat.le_of_ble_eq_true rfl) (And.intro (Nat.le_of_ble_eq_true rfl) (And.intro (Nat.le_of_ble_eq_true rfl) H1)))))
/-- SnapshotRingsModel.digest from 216 -/
theorem r_M_digest_216 {v0 : Nat} {v3 : Int32} {v4 : Int32} {s0 : Int64} {s1 : Nat} {s2 : Int32} {n1 : Nat} {h : sn_H} {Q : Option Value → sn_H → Prop}
    (k1 : hK h s1 = (1, 0, n1))
    (B1 : vp_in ((nI 356 + (nI 15 * (s2 - s2 / nI 16 * nI 16))) + v4) n1)
    (H2 : wpE 173 196 [some (.ref v0), some (.long (s0 + (hG h s1 ((nI 356 + (nI 15 * (s2 - s2 / nI 16 * nI 16))) + v4).toNatClampNeg).toInt64)), none, some (.int v3), some (.int (v4 + nI 1))] [] h (0, 0) Q) :
    wpE 173 216 [some (.ref v0), none, none, some (.int v3), some (.int v4)] [.int s2, .ref s1, .long s0] h (0, 0) Q :=
  vc_s (ct := fun pc => Nat.beq pc 6 || Nat.beq pc 33 || Nat.beq pc 81 || Nat.beq pc 107 || Nat.beq pc 137 || Nat.beq pc 172 || Nat.beq pc 196 || Nat.beq pc 240 || Nat.beq pc 253 || Nat.beq pc 322 || Nat.beq pc 349) 1000 false (And.intro (Nat.le_of_ble_eq_true rfl) (And.intro (Nat.le_of_ble_eq_true rfl) (And.intro (Nat.le_of_ble_eq_true rfl) (And.intro (Nat.le_of_ble_eq_true rfl) (r_M_keptAt_0 (v0 := s2) (h := h) ((vc_s (ct := fun pc => Nat.beq pc 6 || Nat.beq pc 33 || Nat.beq pc 81 || Nat.beq pc 107 || Nat.beq pc 137 || Nat.beq pc 172 || Nat.beq pc 196 || Nat.beq pc 240 || Nat.beq pc 253 || Nat.beq pc 322 || Nat.beq pc 349) 1000 false (Exists.intro 0 (Exists.intro n1 (And.intro k1 (And.intro B1 (And.intro (Nat.le_of_ble_eq_true rfl) (And.intro (Nat.le_of_ble_eq_true rfl) H2)))))))))))))
/-- SnapshotRingsModel.digest from 320 -/
theorem r_M_digest_320 {v0 : Nat} {v1 : Int64} {h : sn_H} {Q : Option Value → sn_H → Prop}
    (H1 : wpE 173 322 [some (.ref v0), some (.long v1), none, some (.int (nI 0)), none] [] h (0, 0) Q) :
    wpE 173 320 [some (.ref v0), some (.long v1), none, none, none] [] h (0, 0) Q :=
  vc_s (ct := fun pc => Nat.beq pc 6 || Nat.beq pc 33 || Nat.beq pc 81 || Nat.beq pc 107 || Nat.beq pc 137 || Nat.beq pc 172 || Nat.beq pc 196 || Nat.beq pc 240 || Nat.beq pc 253 || Nat.beq pc 322 || Nat.beq pc 349) 1000 false (And.intro (Nat.le_of_ble_eq_true rfl) H1)
/-- SnapshotRingsModel.digest from 259 -/
theorem r_M_digest_259 {v0 : Nat} {v1 : Int64} {v3 : Int32} {v4 : Int32} {s0 : Int32} {s1 : Int32} {h : sn_H} {Q : Option Value → sn_H → Prop}
    (k1 : hK h v0 = (0, 5, 16))
    (H1 : s1 ≤ s0 → wpE 173 240 [some (.ref v0), some (.long v1), none, some (.int (v3 + nI 1)), none] [] h (0, 0) Q)
    (H2 : ¬ s1 ≤ s0 → wpE 122 0 [some (.ref v0), some (.int v3), some (.int v4), none, none, none, none, none, none] [] h (0, 0) (fun r hh => wpE 173 274 [some (.ref v0), none, none, some (.int v3), some (.int v4)] (r.toList ++ [.long (lN 31 * v1)]) hh (0, 0) Q)) :
    wpE 173 259 [some (.ref v0), some (.long v1), none, some (.int v3), some (.int v4)] [.int s1, .int s0] h (0, 0) Q :=
  vc_s (ct := fun pc => Nat.beq pc 6 || Nat.beq pc 33 || Nat.beq pc 81 || Nat.beq pc 107 || Nat.beq pc 137 || Nat.beq pc 172 || Nat.beq pc 196 || Nat.beq pc 240 || Nat.beq pc 253 || Nat.beq pc 322 || Nat.beq pc 349) 1000 false (And.intro (fun c1 => (And.intro (Nat.le_of_ble_eq_true rfl) (@wpE_w _ _ [some (.ref v0), some (.long v1), none, some (.int (v3 + nI 1)), none] _ _ _ _ _ (show LeL [some (.ref v0), some (.long v1), none, some (.int (v3 + nI 1)), none] [some (.ref v0), some (.long v1), none, some (.int (v3 + nI 1)), some (.int v4)] from (And.intro rfl (And.intro rfl (And.intro rfl trivial)))) (H1 c1)))) (fun c2 => (And.intro k1 (And.intro (Nat.le_of_ble_eq_true rfl) (And.intro (Nat.le_of_ble_eq_true rfl) (And.intro (Nat.le_of_ble_eq_true rfl) (And.intro (Nat.le_of_ble_eq_true rfl) (wpE_m (fun _ _ HH => @wpE_w _ _ [some (.ref v0), none, none, some (.int v3), some (.int v4)] _ _ _ _ _ (show LeL [some (.ref v0), none, none, some (.int v3), some (.int v4)] [some (.ref v0), some (.long v1), none, some (.int v3), some (.int v4)] from (And.intro rfl (And.intro rfl (And.intro rfl trivial)))) HH) (H2 c2)))))))))
/-- SnapshotRingsModel.digest from 322 -/
theorem r_M_digest_322 {v0 : Nat} {v1 : Int64} {v3 : Int32} {h : sn_H} {Q : Option Value → sn_H → Prop}
    (k1 : hK h v0 = (0, 5, 16))
    (H1 : nI 16 ≤ v3 → wpE 173 349 [some (.ref v0), some (.long v1), none, some (.int (nI 0)), none] [] h (0, 0) Q)
    (H2 : ¬ nI 16 ≤ v3 → wpE 151 0 [some (.ref v0), some (.int v3)] [] h (0, 0) (fun r hh => wpE 173 338 [some (.ref v0), none, none, some (.int v3), none] (r.toList ++ [.long (lN 31 * v1)]) hh (0, 0) Q)) :
    wpE 173 322 [some (.ref v0), some (.long v1), none, some (.int v3), none] [] h (0, 0) Q :=
  vc_s (ct := fun pc => Nat.beq pc 6 || Nat.beq pc 33 || Nat.beq pc 81 || Nat.beq pc 107 || Nat.beq pc 137 || Nat.beq pc 172 || Nat.beq pc 196 || Nat.beq pc 240 || Nat.beq pc 253 || Nat.beq pc 322 || Nat.beq pc 349) 1000 false (And.intro (fun c1 => (And.intro (Nat.le_of_ble_eq_true rfl) (H1 c1))) (fun c2 => (And.intro k1 (And.intro (Nat.le_of_ble_eq_true rfl) (And.intro (Nat.le_of_ble_eq_true rfl) (And.intro (Nat.le_of_ble_eq_true rfl) (And.intro (Nat.le_of_ble_eq_true rfl) (wpE_m (fun _ _ HH => @wpE_w _ _ [some (.ref v0), none, none, some (.int v3), none] _ _ _ _ _ (show LeL [some (.ref v0), none, none, some (.int v3), none] [some (.ref v0), some (.long v1), none, some (.int v3), none] from (And.intro rfl (And.intro rfl trivial))) HH) (H2 c2)))))))))
/-- SnapshotRingsModel.digest from 274 -/
theorem r_M_digest_274 {v0 : Nat} {v3 : Int32} {v4 : Int32} {s0 : Int64} {s1 : Int32} {h : sn_H} {Q : Option Value → sn_H → Prop}
    (k1 : hK h v0 = (0, 5, 16))
    (H1 : wpE 122 0 [some (.ref v0), some (.int v4), some (.int v3), none, none, none, none, none, none] [] h (0, 0) (fun r hh => wpE 173 289 [some (.ref v0), none, none, some (.int v3), some (.int v4)] (r.toList ++ [.long (lN 31 * (s0 + s1.toInt64))]) hh (0, 0) Q)) :
    wpE 173 274 [some (.ref v0), none, none, some (.int v3), some (.int v4)] [.int s1, .long s0] h (0, 0) Q :=
  vc_s (ct := fun pc => Nat.beq pc 6 || Nat.beq pc 33 || Nat.beq pc 81 || Nat.beq pc 107 || Nat.beq pc 137 || Nat.beq pc 172 || Nat.beq pc 196 || Nat.beq pc 240 || Nat.beq pc 253 || Nat.beq pc 322 || Nat.beq pc 349) 1000 false (And.intro (Nat.le_of_ble_eq_true rfl) (And.intro k1 (And.intro (Nat.le_of_ble_eq_true rfl) (And.intro (Nat.le_of_ble_eq_true rfl) (And.intro (Nat.le_of_ble_eq_true rfl) (And.intro (Nat.le_of_ble_eq_true rfl) (wpE_m (fun _ _ HH => @wpE_w _ _ [some (.ref v0), none, none, some (.int v3), some (.int v4)] _ _ _ _ _ (show LeL [some (.ref v0), none, none, some (.int v3), some (.int v4)] [some (.ref v0), some (.long (s0 + s1.toInt64)), none, some (.int v3), some (.int v4)] from (And.intro rfl (And.intro rfl (And.intro rfl trivial)))) HH) H1)))))))
/-- SnapshotRingsModel.digest from 349 -/
theorem r_M_digest_349 {v0 : Nat} {v1 : Int64} {v3 : Int32} {h : sn_H} {Q : Option Value → sn_H → Prop}
    (k1 : hK h v0 = (0, 5, 16))
    (H1 : nI 3 ≤ v3 → Q (some (.long v1)) h)
    (H2 : ¬ nI 3 ≤ v3 → wpE 154 0 [some (.ref v0), some (.int v3), none, none] [] h (0, 0) (fun r hh => wpE 173 364 [some (.ref v0), none, none, some (.int v3), none] (r.toList ++ [.long (lN 31 * v1)]) hh (0, 0) Q)) :
    wpE 173 349 [some (.ref v0), some (.long v1), none, some (.int v3), none] [] h (0, 0) Q :=
  vc_s (ct := fun pc => Nat.beq pc 6 || Nat.beq pc 33 || Nat.beq pc 81 || Nat.beq pc 107 || Nat.beq pc 137 || Nat.beq pc 172 || Nat.beq pc 196 || Nat.beq pc 240 || Nat.beq pc 253 || Nat.beq pc 322 || Nat.beq pc 349) 1000 false (And.intro (fun c1 => (And.intro rfl (H1 c1))) (fun c2 => (And.intro k1 (And.intro (Nat.le_of_ble_eq_true rfl) (And.intro (Nat.le_of_ble_eq_true rfl) (And.intro (Nat.le_of_ble_eq_true rfl) (And.intro (Nat.le_of_ble_eq_true rfl) (wpE_m (fun _ _ HH => @wpE_w _ _ [some (.ref v0), none, none, some (.int v3), none] _ _ _ _ _ (show LeL [some (.ref v0), none, none, some (.int v3), none] [some (.ref v0), some (.long v1), none, some (.int v3), none] from (And.intro rfl (And.intro rfl trivial))) HH) (H2 c2)))))))))
/-- SnapshotRingsModel.digest from 338 -/
theorem r_M_digest_338 {v0 : Nat} {v3 : Int32} {s0 : Int64} {s1 : Int32} {h : sn_H} {Q : Option Value → sn_H → Prop}
    (H1 : wpE 173 322 [some (.ref v0), some (.long (s0 + s1.toInt64)), none, some (.int (v3 + nI 1)), none] [] h (0, 0) Q) :
    wpE 173 338 [some (.ref v0), none, none, some (.int v3), none] [.int s1, .long s0] h (0, 0) Q :=
  vc_s (ct := fun pc => Nat.beq pc 6 || Nat.beq pc 33 || Nat.beq pc 81 || Nat.beq pc 107 || Nat.beq pc 137 || Nat.beq pc 172 || Nat.beq pc 196 || Nat.beq pc 240 || Nat.beq pc 253 || Nat.beq pc 322 || Nat.beq pc 349) 1000 false (And.intro (Nat.le_of_ble_eq_true rfl) (And.intro (Nat.le_of_ble_eq_true rfl) H1))
/-- SnapshotRingsModel.digest from 289 -/
theorem r_M_digest_289 {v0 : Nat} {v3 : Int32} {v4 : Int32} {s0 : Int64} {s1 : Int32} {h : sn_H} {Q : Option Value → sn_H → Prop}
    (H1 : wpE 173 253 [some (.ref v0), some (.long (s0 + s1.toInt64)), none, some (.int v3), some (.int (v4 + nI 1))] [] h (0, 0) Q) :
    wpE 173 289 [some (.ref v0), none, none, some (.int v3), some (.int v4)] [.int s1, .long s0] h (0, 0) Q :=
  vc_s (ct := fun pc => Nat.beq pc 6 || Nat.beq pc 33 || Nat.beq pc 81 || Nat.beq pc 107 || Nat.beq pc 137 || Nat.beq pc 172 || Nat.beq pc 196 || Nat.beq pc 240 || Nat.beq pc 253 || Nat.beq pc 322 || Nat.beq pc 349) 1000 false (And.intro (Nat.le_of_ble_eq_true rfl) (And.intro (Nat.le_of_ble_eq_true rfl) H1))
/-- SnapshotRingsModel.digest from 364 -/
theorem r_M_digest_364 {v0 : Nat} {v3 : Int32} {s0 : Int64} {s1 : Int32} {h : sn_H} {Q : Option Value → sn_H → Prop}
    (H1 : wpE 173 349 [some (.ref v0), some (.long (s0 + s1.toInt64)), none, some (.int (v3 + nI 1)), none] [] h (0, 0) Q) :
    wpE 173 364 [some (.ref v0), none, none, some (.int v3), none] [.int s1, .long s0] h (0, 0) Q :=
  vc_s (ct := fun pc => Nat.beq pc 6 || Nat.beq pc 33 || Nat.beq pc 81 || Nat.beq pc 107 || Nat.beq pc 137 || Nat.beq pc 172 || Nat.beq pc 196 || Nat.beq pc 240 || Nat.beq pc 253 || Nat.beq pc 322 || Nat.beq pc 349) 1000 false (And.intro (Nat.le_of_ble_eq_true rfl) (And.intro (Nat.le_of_ble_eq_true rfl) H1))
