/-! ===== regions of the methods, printed by wip/genp/mkregions.py ===== -/
/-- SnapshotRings$History.push from 0 -/
theorem r_H_push_0 {v0 : Nat} {v1 : Nat} {q1 : Nat} {n1 : Nat} {q2 : Nat} {h : sn_H} {Q : Option Value → sn_H → Prop}
    (k1 : hK h v0 = (0, 2, 3))
    (k2 : hR h v0 0 = some q1)
    (k3 : hK h q1 = (4, 1, n1))
    (k4 : hR h q1 ((hG h v0 2).toNatClampNeg) = some q2)
    (k5 : hK h q2 = (0, 1, 14))
    (B1 : vp_in (hG h v0 2) n1)
    (H2 : wpE 7 0 [some (.ref q2), some (.ref v1)] [] h (0, 0) (fun r hh => wpE 6 13 [some (.ref v0), none] (r.toList ++ []) hh (0, 0) Q)) :
    wpE 6 0 [some (.ref v0), some (.ref v1)] [] h (0, 0) Q :=
  vc_s (ct := fun _ => false) 1000 false (And.intro k1 (Exists.intro q1 (And.intro k2 (And.intro k1 (Exists.intro 1 (Exists.intro n1 (Exists.intro q2 (And.intro k3 (And.intro B1 (And.intro k4 (And.intro k5 (And.intro (Nat.le_of_ble_eq_true rfl) (And.intro (Nat.le_of_ble_eq_true rfl) (And.intro (Nat.le_of_ble_eq_true rfl) (And.intro (Nat.le_of_ble_eq_true rfl) (wpE_m (fun _ _ HH => @wpE_w _ _ [some (.ref v0), none] _ _ _ _ _ (show LeL [some (.ref v0), none] [some (.ref v0), some (.ref v1)] from (And.intro rfl trivial)) HH) H2))))))))))))))))
/-- SnapshotRings$History.push from 13 -/
theorem r_H_push_13 {v0 : Nat} {h : sn_H} {Q : Option Value → sn_H → Prop}
    (k1 : hK h v0 = (0, 2, 3))
    (H1 : Q none (setG (setG h v0 2 (((hG h v0 2) + nI 1) - ((hG h v0 2) + nI 1) / nI 6 * nI 6)) v0 1 (if nI 6 < ((hG (setG h v0 2 (((hG h v0 2) + nI 1) - ((hG h v0 2) + nI 1) / nI 6 * nI 6)) v0 1) + nI 1) then nI 6 else ((hG (setG h v0 2 (((hG h v0 2) + nI 1) - ((hG h v0 2) + nI 1) / nI 6 * nI 6)) v0 1) + nI 1)))) :
    wpE 6 13 [some (.ref v0), none] [] h (0, 0) Q :=
  vc_s (ct := fun _ => false) 1000 false (And.intro k1 (And.intro (by decide) (And.intro k1 (And.intro rfl (And.intro k1 (And.intro (Nat.le_of_ble_eq_true rfl) (And.intro k1 (And.intro rfl (And.intro rfl H1)))))))))
/-- SnapshotRings$Graph.setNode from 0 -/
theorem r_G_setNode_0 {v0 : Nat} {v1 : Int32} {v2 : Int32} {v3 : Int32} {q1 : Nat} {n1 : Nat} {q2 : Nat} {n2 : Nat} {q3 : Nat} {n3 : Nat} {q4 : Nat} {n4 : Nat} {h : sn_H} {Q : Option Value → sn_H → Prop}
    (k1 : hK h v0 = (0, 3, 10))
    (k2 : hR h v0 1 = some q1)
    (k3 : hK h q1 = (1, 0, n1))
    (k4 : hR h v0 2 = some q2)
    (k5 : hK h q2 = (1, 0, n2))
    (k6 : hR h v0 4 = some q3)
    (k7 : hK h q3 = (1, 0, n3))
    (k8 : hR h v0 5 = some q4)
    (k9 : hK h q4 = (1, 0, n4))
    (B1 : vp_in v1 n1)
    (B2 : vp_in v1 n2)
    (B3 : vp_in v1 n3)
    (B4 : vp_in v1 n4)
    (H5 : Q none (setG (setG (setG (setG h q1 v1.toNatClampNeg v2) q2 v1.toNatClampNeg v3) q3 v1.toNatClampNeg (nI 0)) q4 v1.toNatClampNeg (nI 0))) :
    wpE 32 0 [some (.ref v0), some (.int v1), some (.int v2), some (.int v3)] [] h (0, 0) Q :=
  vc_s (ct := fun _ => false) 1000 false (And.intro k1 (Exists.intro q1 (And.intro k2 (Exists.intro n1 (And.intro k3 (And.intro B1 (And.intro k1 (Exists.intro q2 (And.intro k4 (Exists.intro n2 (And.intro k5 (And.intro B2 (And.intro k1 (Exists.intro q3 (And.intro k6 (Exists.intro n3 (And.intro k7 (And.intro B3 (And.intro k1 (Exists.intro q4 (And.intro k8 (Exists.intro n4 (And.intro k9 (And.intro B4 (And.intro rfl H5)))))))))))))))))))))))))
/-- SnapshotRings$Graph.link from 0 -/
theorem r_G_link_0 {v0 : Nat} {v1 : Nat} {v2 : Int32} {v3 : Int32} {q1 : Nat} {n1 : Nat} {q2 : Nat} {n2 : Nat} {h : sn_H} {Q : Option Value → sn_H → Prop}
    (k1 : hK h v0 = (0, 3, 10))
    (k2 : hR h v0 1 = some q1)
    (k3 : hK h q1 = (1, 0, n1))
    (k4 : hR h v0 2 = some q2)
    (k5 : hK h q2 = (1, 0, n2))
    (k6 : hK h v1 = (0, 1, 14))
    (B1 : vp_in v2 n1)
    (B2 : vp_in v2 n2)
    (B3 : vp_in v3 n1)
    (B4 : vp_in v3 n2)
    (H5 : wpE 34 0 [some (.ref v1), some (.int (hG h q1 v2.toNatClampNeg)), some (.int (hG h q2 v2.toNatClampNeg)), some (.int (hG h q1 v3.toNatClampNeg)), some (.int (hG h q2 v3.toNatClampNeg)), none, none, none, none, none] [] h (0, 0) (fun r hh => wpE 33 28 [some (.ref v0), none, some (.int v2), some (.int v3), none] (r.toList ++ []) hh (0, 0) Q)) :
    wpE 33 0 [some (.ref v0), some (.ref v1), some (.int v2), some (.int v3), none] [] h (0, 0) Q :=
  vc_s (ct := fun pc => Nat.beq pc 60) 1000 false (And.intro k1 (Exists.intro q1 (And.intro k2 (Exists.intro 0 (Exists.intro n1 (And.intro k3 (And.intro B1 (And.intro k1 (Exists.intro q2 (And.intro k4 (Exists.intro 0 (Exists.intro n2 (And.intro k5 (And.intro B2 (And.intro k1 (Exists.intro q1 (And.intro k2 (Exists.intro 0 (Exists.intro n1 (And.intro k3 (And.intro B3 (And.intro k1 (Exists.intro q2 (And.intro k4 (Exists.intro 0 (Exists.intro n2 (And.intro k5 (And.intro B4 (And.intro k6 (And.intro (Nat.le_of_ble_eq_true rfl) (And.intro (Nat.le_of_ble_eq_true rfl) (And.intro (Nat.le_of_ble_eq_true rfl) (And.intro (Nat.le_of_ble_eq_true rfl) (wpE_m (fun _ _ HH => @wpE_w _ _ [some (.ref v0), none, some (.int v2), some (.int v3), none] _ _ _ _ _ (show LeL [some (.ref v0), none, some (.int v2), some (.int v3), none] [some (.ref v0), some (.ref v1), some (.int v2), some (.int v3), none] from (And.intro rfl (And.intro rfl (And.intro rfl trivial)))) HH) H5))))))))))))))))))))))))))))))))))
/-- SnapshotRings$Graph.link from 28 -/
theorem r_G_link_28 {v0 : Nat} {v2 : Int32} {v3 : Int32} {s0 : Int32} {q1 : Nat} {n1 : Nat} {q2 : Nat} {n2 : Nat} {h : sn_H} {Q : Option Value → sn_H → Prop}
    (k1 : hK h v0 = (0, 3, 10))
    (k2 : hR h v0 3 = some q1)
    (k3 : hK h q1 = (1, 0, n1))
    (k4 : hR h v0 4 = some q2)
    (k5 : hK h q2 = (1, 0, n2))
    (B1 : vp_in ((v2 * nI 17) + v3) n1)
    (H2 : s0 = 0 → wpE 33 60 [some (.ref v0), none, some (.int v2), some (.int v3), some (.int s0)] [] (setG h q1 ((v2 * nI 17) + v3).toNatClampNeg s0) (0, 0) Q)
    (B3 : ¬ s0 = 0 → vp_in v2 n2)
    (H4 : ¬ s0 = 0 → wpE 33 60 [some (.ref v0), none, some (.int v2), some (.int v3), some (.int s0)] [] (setG (setG h q1 ((v2 * nI 17) + v3).toNatClampNeg s0) q2 v2.toNatClampNeg ((hG (setG h q1 ((v2 * nI 17) + v3).toNatClampNeg s0) q2 v2.toNatClampNeg) ||| (nI 1 <<< (v3 &&& 31)))) (0, 0) Q) :
    wpE 33 28 [some (.ref v0), none, some (.int v2), some (.int v3), none] [.int s0] h (0, 0) Q :=
  vc_s (ct := fun pc => Nat.beq pc 60) 1000 false (And.intro (Nat.le_of_ble_eq_true rfl) (And.intro k1 (Exists.intro q1 (And.intro k2 (Exists.intro n1 (And.intro k3 (And.intro B1 (And.intro (fun c1 => (H2 c1)) (fun c2 => (And.intro k1 (Exists.intro q2 (And.intro k4 (And.intro rfl (And.intro rfl (Exists.intro 0 (Exists.intro n2 (And.intro k5 (And.intro (B3 c2) (Exists.intro n2 (And.intro k5 (And.intro (B3 c2) (H4 c2))))))))))))))))))))))
/-- SnapshotRings$Graph.link from 60 -/
theorem r_G_link_60 {v0 : Nat} {v2 : Int32} {v3 : Int32} {v4 : Int32} {q1 : Nat} {n1 : Nat} {h : sn_H} {Q : Option Value → sn_H → Prop}
    (k1 : hK h v0 = (0, 3, 10))
    (k2 : hR h v0 5 = some q1)
    (k3 : hK h q1 = (1, 0, n1))
    (H1 : (v4 &&& nI 4) = 0 → Q none h)
    (B2 : ¬ (v4 &&& nI 4) = 0 → vp_in v2 n1)
    (H3 : ¬ (v4 &&& nI 4) = 0 → Q none (setG h q1 v2.toNatClampNeg ((hG h q1 v2.toNatClampNeg) ||| (nI 1 <<< (v3 &&& 31))))) :
    wpE 33 60 [some (.ref v0), none, some (.int v2), some (.int v3), some (.int v4)] [] h (0, 0) Q :=
  vc_s (ct := fun pc => Nat.beq pc 60) 1000 false (And.intro (fun c1 => (And.intro rfl (H1 c1))) (fun c2 => (And.intro k1 (Exists.intro q1 (And.intro k2 (And.intro rfl (And.intro rfl (Exists.intro 0 (Exists.intro n1 (And.intro k3 (And.intro (B2 c2) (Exists.intro n1 (And.intro k3 (And.intro (B2 c2) (And.intro rfl (H3 c2))))))))))))))))
/-- SnapshotRings$Graph.load from 0 -/
theorem r_G_load_0 {v0 : Nat} {v1 : Nat} {h : sn_H} {Q : Option Value → sn_H → Prop}
    (k1 : hK h v1 = (0, 1, 14))
    (k2 : hK h v0 = (0, 3, 10))
    (H1 : wpE 29 22 [some (.ref v0), some (.ref v1), some (.int (((hG (setG h v0 0 (if nI 16 < (hG h v1 1) then nI 16 else (hG h v1 1))) v1 1) - (hG (setG h v0 0 (if nI 16 < (hG h v1 1) then nI 16 else (hG h v1 1))) v0 0)) + nI 1)), some (.int (nI 0)), none] [] (setG h v0 0 (if nI 16 < (hG h v1 1) then nI 16 else (hG h v1 1))) (0, 0) Q) :
    wpE 29 0 [some (.ref v0), some (.ref v1), none, none, none] [] h (0, 0) Q :=
  vc_s (ct := fun pc => Nat.beq pc 22 || Nat.beq pc 48 || Nat.beq pc 53 || Nat.beq pc 64) 1000 false (And.intro k1 (And.intro (Nat.le_of_ble_eq_true rfl) (And.intro (Nat.le_of_ble_eq_true rfl) (And.intro (Nat.le_of_ble_eq_true rfl) (And.intro (Nat.le_of_ble_eq_true rfl) (r_S_keptCommits_0 (v0 := v1) (h := h) k1 ((vc_s (ct := fun pc => Nat.beq pc 22 || Nat.beq pc 48 || Nat.beq pc 53 || Nat.beq pc 64) 1000 false (And.intro k2 (And.intro rfl (And.intro k1 (And.intro k2 (And.intro (Nat.le_of_ble_eq_true rfl) (And.intro (Nat.le_of_ble_eq_true rfl) H1))))))))))))))
/-- SnapshotRings$Graph.load from 22 -/
theorem r_G_load_22 {v0 : Nat} {v1 : Nat} {v2 : Int32} {v3 : Int32} {q1 : Nat} {n1 : Nat} {q2 : Nat} {n2 : Nat} {q3 : Nat} {n3 : Nat} {q4 : Nat} {n4 : Nat} {h : sn_H} {Q : Option Value → sn_H → Prop}
    (k1 : hK h v0 = (0, 3, 10))
    (k2 : hK h v1 = (0, 1, 14))
    (k3 : hR h v0 1 = some q1)
    (k4 : hK h q1 = (1, 0, n1))
    (k5 : hR h v0 2 = some q2)
    (k6 : hK h q2 = (1, 0, n2))
    (k7 : hR h v0 4 = some q3)
    (k8 : hK h q3 = (1, 0, n3))
    (k9 : hR h v0 5 = some q4)
    (k10 : hK h q4 = (1, 0, n4))
    (H1 : (hG h v0 0) ≤ v3 → wpE 29 53 [some (.ref v0), some (.ref v1), none, some (.int (nI 0)), none] [] h (0, 0) Q)
    (B2 : ¬ (hG h v0 0) ≤ v3 → vp_in v3 n1)
    (B3 : ¬ (hG h v0 0) ≤ v3 → vp_in v3 n2)
    (B4 : ¬ (hG h v0 0) ≤ v3 → vp_in v3 n3)
    (B5 : ¬ (hG h v0 0) ≤ v3 → vp_in v3 n4)
    (H6 : ¬ (hG h v0 0) ≤ v3 → wpE 29 48 [some (.ref v0), some (.ref v1), some (.int v2), some (.int (v3 + nI 1)), none] [] (setG (setG (setG (setG h q1 v3.toNatClampNeg (nI 8 + (((v2 + v3) - nI 1) &&& nI 15))) q2 v3.toNatClampNeg (v2 + v3)) q3 v3.toNatClampNeg (nI 0)) q4 v3.toNatClampNeg (nI 0)) (0, 0) Q) :
    wpE 29 22 [some (.ref v0), some (.ref v1), some (.int v2), some (.int v3), none] [] h (0, 0) Q :=
  vc_s (ct := fun pc => Nat.beq pc 22 || Nat.beq pc 48 || Nat.beq pc 53 || Nat.beq pc 64) 1000 false (And.intro k1 (And.intro (fun c1 => (And.intro (Nat.le_of_ble_eq_true rfl) (@wpE_w _ _ [some (.ref v0), some (.ref v1), none, some (.int (nI 0)), none] _ _ _ _ _ (show LeL [some (.ref v0), some (.ref v1), none, some (.int (nI 0)), none] [some (.ref v0), some (.ref v1), some (.int v2), some (.int (nI 0)), none] from (And.intro rfl (And.intro rfl (And.intro rfl trivial)))) (H1 c1)))) (fun c2 => (And.intro k2 (And.intro (Nat.le_of_ble_eq_true rfl) (And.intro (Nat.le_of_ble_eq_true rfl) (And.intro (Nat.le_of_ble_eq_true rfl) (And.intro (Nat.le_of_ble_eq_true rfl) (r_S_rowOfCommit_0 (v0 := v1) (v1 := (v2 + v3)) (h := h) ((vc_s (ct := fun pc => Nat.beq pc 22 || Nat.beq pc 48 || Nat.beq pc 53 || Nat.beq pc 64) 1000 false (And.intro k1 (And.intro (Nat.le_of_ble_eq_true rfl) (And.intro (Nat.le_of_ble_eq_true rfl) (And.intro (Nat.le_of_ble_eq_true rfl) (And.intro (Nat.le_of_ble_eq_true rfl) (r_G_setNode_0 (v0 := v0) (v1 := v3) (v2 := (nI 8 + (((v2 + v3) - nI 1) &&& nI 15))) (v3 := (v2 + v3)) (q1 := q1) (n1 := n1) (q2 := q2) (n2 := n2) (q3 := q3) (n3 := n3) (q4 := q4) (n4 := n4) (h := h) k1 k3 k4 k5 k6 k7 k8 k9 k10 ((B2 c2)) ((B3 c2)) ((B4 c2)) ((B5 c2)) ((vc_s (ct := fun pc => Nat.beq pc 22 || Nat.beq pc 48 || Nat.beq pc 53 || Nat.beq pc 64) 1000 false (And.intro (Nat.le_of_ble_eq_true rfl) (H6 c2)))))))))))))))))))))
/-- SnapshotRings$Graph.load from 53 -/
theorem r_G_load_53 {v0 : Nat} {v1 : Nat} {v3 : Int32} {h : sn_H} {Q : Option Value → sn_H → Prop}
    (k1 : hK h v0 = (0, 3, 10))
    (H1 : (hG h v0 0) ≤ v3 → Q none h)
    (H2 : ¬ (hG h v0 0) ≤ v3 → wpE 29 64 [some (.ref v0), some (.ref v1), none, some (.int v3), some (.int (nI 0))] [] h (0, 0) Q) :
    wpE 29 53 [some (.ref v0), some (.ref v1), none, some (.int v3), none] [] h (0, 0) Q :=
  vc_s (ct := fun pc => Nat.beq pc 22 || Nat.beq pc 48 || Nat.beq pc 53 || Nat.beq pc 64) 1000 false (And.intro k1 (And.intro (fun c1 => (And.intro rfl (H1 c1))) (fun c2 => (And.intro (Nat.le_of_ble_eq_true rfl) (H2 c2)))))
/-- SnapshotRings$Graph.load from 48 -/
theorem r_G_load_48 {v0 : Nat} {v1 : Nat} {v2 : Int32} {v3 : Int32} {h : sn_H} {Q : Option Value → sn_H → Prop}
    (H1 : wpE 29 22 [some (.ref v0), some (.ref v1), some (.int v2), some (.int v3), none] [] h (0, 0) Q) :
    wpE 29 48 [some (.ref v0), some (.ref v1), some (.int v2), some (.int v3), none] [] h (0, 0) Q :=
  vc_s (ct := fun pc => Nat.beq pc 22 || Nat.beq pc 48 || Nat.beq pc 53 || Nat.beq pc 64) 1000 false H1
/-- SnapshotRings$Graph.load from 64 -/
theorem r_G_load_64 {v0 : Nat} {v1 : Nat} {v3 : Int32} {v4 : Int32} {h : sn_H} {Q : Option Value → sn_H → Prop}
    (k1 : hK h v0 = (0, 3, 10))
    (H1 : (hG h v0 0) ≤ v4 → wpE 29 53 [some (.ref v0), some (.ref v1), none, some (.int (v3 + nI 1)), none] [] h (0, 0) Q)
    (H2 : ¬ (hG h v0 0) ≤ v4 → v3 = v4 → wpE 29 64 [some (.ref v0), some (.ref v1), none, some (.int v3), some (.int (v4 + nI 1))] [] h (0, 0) Q)
    (H3 : ¬ (hG h v0 0) ≤ v4 → ¬ v3 = v4 → wpE 33 0 [some (.ref v0), some (.ref v1), some (.int v3), some (.int v4), none] [] h (0, 0) (fun r hh => wpE 29 87 [some (.ref v0), some (.ref v1), none, some (.int v3), some (.int v4)] (r.toList ++ []) hh (0, 0) Q)) :
    wpE 29 64 [some (.ref v0), some (.ref v1), none, some (.int v3), some (.int v4)] [] h (0, 0) Q :=
  vc_s (ct := fun pc => Nat.beq pc 22 || Nat.beq pc 48 || Nat.beq pc 53 || Nat.beq pc 64) 1000 false (And.intro k1 (And.intro (fun c1 => (And.intro (Nat.le_of_ble_eq_true rfl) (@wpE_w _ _ [some (.ref v0), some (.ref v1), none, some (.int (v3 + nI 1)), none] _ _ _ _ _ (show LeL [some (.ref v0), some (.ref v1), none, some (.int (v3 + nI 1)), none] [some (.ref v0), some (.ref v1), none, some (.int (v3 + nI 1)), some (.int v4)] from (And.intro rfl (And.intro rfl (And.intro rfl trivial)))) (H1 c1)))) (fun c2 => (And.intro (fun c3 => (And.intro (Nat.le_of_ble_eq_true rfl) (H2 c2 c3))) (fun c4 => (And.intro k1 (And.intro (Nat.le_of_ble_eq_true rfl) (And.intro (Nat.le_of_ble_eq_true rfl) (And.intro (Nat.le_of_ble_eq_true rfl) (And.intro (Nat.le_of_ble_eq_true rfl) (H3 c2 c4)))))))))))
/-- SnapshotRings$Graph.load from 87 -/
theorem r_G_load_87 {v0 : Nat} {v1 : Nat} {v3 : Int32} {v4 : Int32} {h : sn_H} {Q : Option Value → sn_H → Prop}
    (H1 : wpE 29 64 [some (.ref v0), some (.ref v1), none, some (.int v3), some (.int (v4 + nI 1))] [] h (0, 0) Q) :
    wpE 29 87 [some (.ref v0), some (.ref v1), none, some (.int v3), some (.int v4)] [] h (0, 0) Q :=
  vc_s (ct := fun pc => Nat.beq pc 22 || Nat.beq pc 48 || Nat.beq pc 53 || Nat.beq pc 64) 1000 false (And.intro (Nat.le_of_ble_eq_true rfl) H1)
/-- SnapshotRings$Graph.join from 0 -/
theorem r_G_join_0 {v0 : Nat} {v1 : Nat} {v2 : Int32} {q1 : Nat} {n1 : Nat} {q2 : Nat} {n2 : Nat} {q3 : Nat} {n3 : Nat} {q4 : Nat} {n4 : Nat} {h : sn_H} {Q : Option Value → sn_H → Prop}
    (k1 : hK h v0 = (0, 3, 10))
    (k2 : hK h v1 = (0, 1, 14))
    (k3 : hR h v0 1 = some q1)
    (k4 : hK h q1 = (1, 0, n1))
    (k5 : hR h v0 2 = some q2)
    (k6 : hK h q2 = (1, 0, n2))
    (k7 : hR h v0 4 = some q3)
    (k8 : hK h q3 = (1, 0, n3))
    (k9 : hR h v0 5 = some q4)
    (k10 : hK h q4 = (1, 0, n4))
    (B1 : (hG h v0 0) < nI 17 → vp_in (hG h v0 0) n1)
    (B2 : (hG h v0 0) < nI 17 → vp_in (hG h v0 0) n2)
    (B3 : (hG h v0 0) < nI 17 → vp_in (hG h v0 0) n3)
    (B4 : (hG h v0 0) < nI 17 → vp_in (hG h v0 0) n4)
    (H5 : (hG h v0 0) < nI 17 → wpE 35 40 [some (.ref v0), some (.ref v1), none, some (.int (hG h v0 0)), some (.int (nI 0))] [] (setG (setG (setG (setG (setG h v0 0 ((hG h v0 0) + nI 1)) q1 (hG h v0 0).toNatClampNeg v2) q2 (hG h v0 0).toNatClampNeg ((hG (setG h v0 0 ((hG h v0 0) + nI 1)) v1 1) + nI 1)) q3 (hG h v0 0).toNatClampNeg (nI 0)) q4 (hG h v0 0).toNatClampNeg (nI 0)) (0, 0) Q)
    (H6 : ¬ (hG h v0 0) < nI 17 → Q none h) :
    wpE 35 0 [some (.ref v0), some (.ref v1), some (.int v2), none, none] [] h (0, 0) Q :=
  vc_s (ct := fun pc => Nat.beq pc 40) 1000 false (And.intro k1 (And.intro (fun c1 => (And.intro k1 (And.intro (Nat.le_of_ble_eq_true rfl) (And.intro rfl (And.intro k1 (And.intro k1 (And.intro rfl (And.intro k2 (And.intro k1 (And.intro (Nat.le_of_ble_eq_true rfl) (And.intro (Nat.le_of_ble_eq_true rfl) (And.intro (Nat.le_of_ble_eq_true rfl) (And.intro (Nat.le_of_ble_eq_true rfl) (r_G_setNode_0 (v0 := v0) (v1 := (hG h v0 0)) (v2 := v2) (v3 := ((hG (setG h v0 0 ((hG h v0 0) + nI 1)) v1 1) + nI 1)) (q1 := q1) (n1 := n1) (q2 := q2) (n2 := n2) (q3 := q3) (n3 := n3) (q4 := q4) (n4 := n4) (h := (setG h v0 0 ((hG h v0 0) + nI 1))) k1 k3 k4 k5 k6 k7 k8 k9 k10 ((B1 c1)) ((B2 c1)) ((B3 c1)) ((B4 c1)) ((vc_s (ct := fun pc => Nat.beq pc 40) 1000 false (And.intro (Nat.le_of_ble_eq_true rfl) (@wpE_w _ _ [some (.ref v0), some (.ref v1), none, some (.int (hG h v0 0)), some (.int (nI 0))] _ _ _ _ _ (show LeL [some (.ref v0), some (.ref v1), none, some (.int (hG h v0 0)), some (.int (nI 0))] [some (.ref v0), some (.ref v1), some (.int v2), some (.int (hG h v0 0)), some (.int (nI 0))] from (And.intro rfl (And.intro rfl (And.intro rfl (And.intro rfl trivial))))) (H5 c1))))))))))))))))))) (fun c2 => (And.intro rfl (H6 c2)))))
/-- SnapshotRings$Graph.join from 40 -/
theorem r_G_join_40 {v0 : Nat} {v1 : Nat} {v3 : Int32} {v4 : Int32} {h : sn_H} {Q : Option Value → sn_H → Prop}
    (k1 : hK h v0 = (0, 3, 10))
    (H1 : v3 ≤ v4 → Q none h)
    (H2 : ¬ v3 ≤ v4 → wpE 33 0 [some (.ref v0), some (.ref v1), some (.int v4), some (.int v3), none] [] h (0, 0) (fun r hh => wpE 35 54 [some (.ref v0), some (.ref v1), none, some (.int v3), some (.int v4)] (r.toList ++ []) hh (0, 0) Q)) :
    wpE 35 40 [some (.ref v0), some (.ref v1), none, some (.int v3), some (.int v4)] [] h (0, 0) Q :=
  vc_s (ct := fun pc => Nat.beq pc 40) 1000 false (And.intro (fun c1 => (And.intro rfl (H1 c1))) (fun c2 => (And.intro k1 (And.intro (Nat.le_of_ble_eq_true rfl) (And.intro (Nat.le_of_ble_eq_true rfl) (And.intro (Nat.le_of_ble_eq_true rfl) (And.intro (Nat.le_of_ble_eq_true rfl) (H2 c2))))))))
/-- SnapshotRings$Graph.join from 54 -/
theorem r_G_join_54 {v0 : Nat} {v1 : Nat} {v3 : Int32} {v4 : Int32} {h : sn_H} {Q : Option Value → sn_H → Prop}
    (k1 : hK h v0 = (0, 3, 10))
    (H1 : wpE 33 0 [some (.ref v0), some (.ref v1), some (.int v3), some (.int v4), none] [] h (0, 0) (fun r hh => wpE 35 62 [some (.ref v0), some (.ref v1), none, some (.int v3), some (.int v4)] (r.toList ++ []) hh (0, 0) Q)) :
    wpE 35 54 [some (.ref v0), some (.ref v1), none, some (.int v3), some (.int v4)] [] h (0, 0) Q :=
  vc_s (ct := fun pc => Nat.beq pc 40) 1000 false (And.intro k1 (And.intro (Nat.le_of_ble_eq_true rfl) (And.intro (Nat.le_of_ble_eq_true rfl) (And.intro (Nat.le_of_ble_eq_true rfl) (And.intro (Nat.le_of_ble_eq_true rfl) H1)))))
/-- SnapshotRings$Graph.join from 62 -/
theorem r_G_join_62 {v0 : Nat} {v1 : Nat} {v3 : Int32} {v4 : Int32} {h : sn_H} {Q : Option Value → sn_H → Prop}
    (H1 : wpE 35 40 [some (.ref v0), some (.ref v1), none, some (.int v3), some (.int (v4 + nI 1))] [] h (0, 0) Q) :
    wpE 35 62 [some (.ref v0), some (.ref v1), none, some (.int v3), some (.int v4)] [] h (0, 0) Q :=
  vc_s (ct := fun pc => Nat.beq pc 40) 1000 false (And.intro (Nat.le_of_ble_eq_true rfl) H1)
/-- SnapshotRings$Graph.countSteps from 0 -/
theorem r_G_countSteps_0 {v0 : Nat} {v1 : Int32} {h : sn_H} {Q : Option Value → sn_H → Prop}
    (H1 : wpE 37 2 [some (.ref v0), some (.int v1), some (.int (nI 0)), none, none, none] [] h (0, 0) Q) :
    wpE 37 0 [some (.ref v0), some (.int v1), none, none, none, none] [] h (0, 0) Q :=
  vc_s (ct := fun pc => Nat.beq pc 2 || Nat.beq pc 37 || Nat.beq pc 51) 1000 false (And.intro (Nat.le_of_ble_eq_true rfl) H1)
/-- SnapshotRings$Graph.countSteps from 2 -/
theorem r_G_countSteps_2 {v0 : Nat} {v1 : Int32} {v2 : Int32} {q1 : Nat} {n1 : Nat} {h : sn_H} {Q : Option Value → sn_H → Prop}
    (k1 : hK h v0 = (0, 3, 10))
    (k2 : hR h v0 7 = some q1)
    (k3 : hK h q1 = (1, 0, n1))
    (B1 : (hG h v0 0) ≤ v2 → vp_in v1 n1)
    (H2 : (hG h v0 0) ≤ v2 → wpE 37 37 [some (.ref v0), none, some (.int (nI 1 <<< (v1 &&& 31))), some (.int (nI 1)), none, none] [] (setG h q1 v1.toNatClampNeg (nI 0)) (0, 0) Q)
    (B3 : ¬ (hG h v0 0) ≤ v2 → vp_in v2 n1)
    (H4 : ¬ (hG h v0 0) ≤ v2 → wpE 37 2 [some (.ref v0), some (.int v1), some (.int (v2 + nI 1)), none, none, none] [] (setG h q1 v2.toNatClampNeg (nI 17)) (0, 0) Q) :
    wpE 37 2 [some (.ref v0), some (.int v1), some (.int v2), none, none, none] [] h (0, 0) Q :=
  vc_s (ct := fun pc => Nat.beq pc 2 || Nat.beq pc 37 || Nat.beq pc 51) 1000 false (And.intro k1 (And.intro (fun c1 => (And.intro k1 (Exists.intro q1 (And.intro k2 (Exists.intro n1 (And.intro k3 (And.intro (B1 c1) (And.intro (Nat.le_of_ble_eq_true rfl) (And.intro (Nat.le_of_ble_eq_true rfl) (@wpE_w _ _ [some (.ref v0), none, some (.int (nI 1 <<< (v1 &&& 31))), some (.int (nI 1)), none, none] _ _ _ _ _ (show LeL [some (.ref v0), none, some (.int (nI 1 <<< (v1 &&& 31))), some (.int (nI 1)), none, none] [some (.ref v0), some (.int v1), some (.int (nI 1 <<< (v1 &&& 31))), some (.int (nI 1)), none, none] from (And.intro rfl (And.intro rfl (And.intro rfl trivial)))) (H2 c1))))))))))) (fun c2 => (And.intro k1 (Exists.intro q1 (And.intro k2 (Exists.intro n1 (And.intro k3 (And.intro (B3 c2) (And.intro (Nat.le_of_ble_eq_true rfl) (H4 c2)))))))))))
/-- SnapshotRings$Graph.countSteps from 37 -/
theorem r_G_countSteps_37 {v0 : Nat} {v2 : Int32} {v3 : Int32} {h : sn_H} {Q : Option Value → sn_H → Prop}
    (k1 : hK h v0 = (0, 3, 10))
    (H1 : (hG h v0 0) ≤ v3 → Q none h)
    (H2 : ¬ (hG h v0 0) ≤ v3 → wpE 37 51 [some (.ref v0), none, some (.int v2), some (.int v3), some (.int (nI 0)), some (.int (nI 0))] [] h (0, 0) Q) :
    wpE 37 37 [some (.ref v0), none, some (.int v2), some (.int v3), none, none] [] h (0, 0) Q :=
  vc_s (ct := fun pc => Nat.beq pc 2 || Nat.beq pc 37 || Nat.beq pc 51) 1000 false (And.intro k1 (And.intro (fun c1 => (And.intro rfl (H1 c1))) (fun c2 => (And.intro (Nat.le_of_ble_eq_true rfl) (And.intro (Nat.le_of_ble_eq_true rfl) (H2 c2))))))
/-- SnapshotRings$Graph.countSteps from 51 -/
theorem r_G_countSteps_51 {v0 : Nat} {v2 : Int32} {v3 : Int32} {v4 : Int32} {v5 : Int32} {q1 : Nat} {n1 : Nat} {q2 : Nat} {n2 : Nat} {h : sn_H} {Q : Option Value → sn_H → Prop}
    (k1 : hK h v0 = (0, 3, 10))
    (k2 : hR h v0 7 = some q1)
    (k3 : hK h q1 = (1, 0, n1))
    (k4 : hR h v0 4 = some q2)
    (k5 : hK h q2 = (1, 0, n2))
    (H1 : (hG h v0 0) ≤ v5 → wpE 37 37 [some (.ref v0), none, some (.int v4), some (.int (v3 + nI 1)), none, none] [] h (0, 0) Q)
    (B2 : ¬ (hG h v0 0) ≤ v5 → vp_in v5 n1)
    (H3 : ¬ (hG h v0 0) ≤ v5 → ¬ (hG h q1 v5.toNatClampNeg) = nI 17 → wpE 37 51 [some (.ref v0), none, some (.int v2), some (.int v3), some (.int v4), some (.int (v5 + nI 1))] [] h (0, 0) Q)
    (B4 : ¬ (hG h v0 0) ≤ v5 → (hG h q1 v5.toNatClampNeg) = nI 17 → vp_in v5 n2)
    (H5 : ¬ (hG h v0 0) ≤ v5 → (hG h q1 v5.toNatClampNeg) = nI 17 → ((hG h q2 v5.toNatClampNeg) &&& v2) = 0 → wpE 37 51 [some (.ref v0), none, some (.int v2), some (.int v3), some (.int v4), some (.int (v5 + nI 1))] [] h (0, 0) Q)
    (H6 : ¬ (hG h v0 0) ≤ v5 → (hG h q1 v5.toNatClampNeg) = nI 17 → ¬ ((hG h q2 v5.toNatClampNeg) &&& v2) = 0 → wpE 37 51 [some (.ref v0), none, some (.int v2), some (.int v3), some (.int (v4 ||| (nI 1 <<< (v5 &&& 31)))), some (.int (v5 + nI 1))] [] (setG h q1 v5.toNatClampNeg v3) (0, 0) Q) :
    wpE 37 51 [some (.ref v0), none, some (.int v2), some (.int v3), some (.int v4), some (.int v5)] [] h (0, 0) Q :=
  vc_s (ct := fun pc => Nat.beq pc 2 || Nat.beq pc 37 || Nat.beq pc 51) 1000 false (And.intro k1 (And.intro (fun c1 => (And.intro (Nat.le_of_ble_eq_true rfl) (And.intro (Nat.le_of_ble_eq_true rfl) (@wpE_w _ _ [some (.ref v0), none, some (.int v4), some (.int (v3 + nI 1)), none, none] _ _ _ _ _ (show LeL [some (.ref v0), none, some (.int v4), some (.int (v3 + nI 1)), none, none] [some (.ref v0), none, some (.int v4), some (.int (v3 + nI 1)), some (.int v4), some (.int v5)] from (And.intro rfl (And.intro rfl (And.intro rfl trivial)))) (H1 c1))))) (fun c2 => (And.intro k1 (Exists.intro q1 (And.intro k2 (Exists.intro 0 (Exists.intro n1 (And.intro k3 (And.intro (B2 c2) (And.intro (fun c3 => (And.intro (Nat.le_of_ble_eq_true rfl) (H3 c2 c3))) (fun c4 => (And.intro k1 (Exists.intro q2 (And.intro k4 (Exists.intro 0 (Exists.intro n2 (And.intro k5 (And.intro (B4 c2 c4) (And.intro (fun c5 => (And.intro (Nat.le_of_ble_eq_true rfl) (H5 c2 c4 c5))) (fun c6 => (And.intro k1 (Exists.intro q1 (And.intro k2 (Exists.intro n1 (And.intro k3 (And.intro (B2 c2) (And.intro (Nat.le_of_ble_eq_true rfl) (And.intro (Nat.le_of_ble_eq_true rfl) (H6 c2 c4 c6))))))))))))))))))))))))))))))
/-- SnapshotRings$Graph.lowestBehind from 0 -/
theorem r_G_lowestBehind_0 {v0 : Nat} {v1 : Int32} {v2 : Int32} {h : sn_H} {Q : Option Value → sn_H → Prop}
    (H1 : wpE 38 2 [some (.ref v0), some (.int v1), some (.int v2), some (.int (nI 0))] [] h (0, 0) Q) :
    wpE 38 0 [some (.ref v0), some (.int v1), some (.int v2), none] [] h (0, 0) Q :=
  vc_s (ct := fun pc => Nat.beq pc 2) 1000 false (And.intro (Nat.le_of_ble_eq_true rfl) H1)
/-- SnapshotRings$Graph.lowestBehind from 2 -/
theorem r_G_lowestBehind_2 {v0 : Nat} {v1 : Int32} {v2 : Int32} {v3 : Int32} {q1 : Nat} {n1 : Nat} {q2 : Nat} {n2 : Nat} {h : sn_H} {Q : Option Value → sn_H → Prop}
    (k1 : hK h v0 = (0, 3, 10))
    (k2 : hR h v0 4 = some q1)
    (k3 : hK h q1 = (1, 0, n1))
    (k4 : hR h v0 7 = some q2)
    (k5 : hK h q2 = (1, 0, n2))
    (H1 : (hG h v0 0) ≤ v3 → Q (some (.int v1)) h)
    (B2 : ¬ (hG h v0 0) ≤ v3 → vp_in v1 n1)
    (H3 : ¬ (hG h v0 0) ≤ v3 → ¬ (((hG h q1 v1.toNatClampNeg) >>> (v3 &&& 31)) &&& nI 1) = nI 1 → wpE 38 2 [some (.ref v0), some (.int v1), some (.int v2), some (.int (v3 + nI 1))] [] h (0, 0) Q)
    (B4 : ¬ (hG h v0 0) ≤ v3 → (((hG h q1 v1.toNatClampNeg) >>> (v3 &&& 31)) &&& nI 1) = nI 1 → vp_in v3 n2)
    (H5 : ¬ (hG h v0 0) ≤ v3 → (((hG h q1 v1.toNatClampNeg) >>> (v3 &&& 31)) &&& nI 1) = nI 1 → ¬ (hG h q2 v3.toNatClampNeg) = v2 → wpE 38 2 [some (.ref v0), some (.int v1), some (.int v2), some (.int (v3 + nI 1))] [] h (0, 0) Q)
    (H6 : ¬ (hG h v0 0) ≤ v3 → (((hG h q1 v1.toNatClampNeg) >>> (v3 &&& 31)) &&& nI 1) = nI 1 → (hG h q2 v3.toNatClampNeg) = v2 → Q (some (.int v3)) h) :
    wpE 38 2 [some (.ref v0), some (.int v1), some (.int v2), some (.int v3)] [] h (0, 0) Q :=
  vc_s (ct := fun pc => Nat.beq pc 2) 1000 false (And.intro k1 (And.intro (fun c1 => (H1 c1)) (fun c2 => (And.intro k1 (Exists.intro q1 (And.intro k2 (Exists.intro 0 (Exists.intro n1 (And.intro k3 (And.intro (B2 c2) (And.intro (Nat.le_of_ble_eq_true rfl) (And.intro (Nat.le_of_ble_eq_true rfl) (And.intro (Nat.le_of_ble_eq_true rfl) (And.intro (Nat.le_of_ble_eq_true rfl) (r_X_hasBit_0 (v0 := (hG h q1 v1.toNatClampNeg)) (v1 := v3) (h := h) (fun c3 => (vc_s (ct := fun pc => Nat.beq pc 2) 1000 false (And.intro (fun c4 => (And.intro (Nat.le_of_ble_eq_true rfl) (H3 c2 c3))) (fun c4 => absurd c4 (by decide))))) (fun c5 => (vc_s (ct := fun pc => Nat.beq pc 2) 1000 false (And.intro (fun c6 => absurd c6 (by decide)) (fun c6 => (And.intro k1 (Exists.intro q2 (And.intro k4 (Exists.intro 0 (Exists.intro n2 (And.intro k5 (And.intro (B4 c2 c5) (And.intro (fun c7 => (And.intro (Nat.le_of_ble_eq_true rfl) (H5 c2 c5 c7))) (fun c8 => (H6 c2 c5 c8)))))))))))))))))))))))))))))
/-- SnapshotRings$Graph.tell from 0 -/
theorem r_G_tell_0 {v0 : Nat} {v1 : Int32} {q1 : Nat} {q2 : Nat} {n1 : Nat} {n2 : Nat} {h : sn_H} {Q : Option Value → sn_H → Prop}
    (k1 : hK h v0 = (0, 3, 10))
    (k2 : hR h v0 8 = some q1)
    (k3 : hR h v0 2 = some q2)
    (k4 : hK h q2 = (1, 0, n1))
    (k5 : hK h q1 = (1, 0, n2))
    (B1 : vp_in v1 n1)
    (B2 : vp_in (hG h v0 9) n2)
    (H3 : Q none (setG (setG h q1 (hG h v0 9).toNatClampNeg (hG h q2 v1.toNatClampNeg)) v0 9 ((hG (setG h q1 (hG h v0 9).toNatClampNeg (hG h q2 v1.toNatClampNeg)) v0 9) + nI 1))) :
    wpE 39 0 [some (.ref v0), some (.int v1)] [] h (0, 0) Q :=
  vc_s (ct := fun _ => false) 1000 false (And.intro k1 (Exists.intro q1 (And.intro k2 (And.intro k1 (And.intro k1 (Exists.intro q2 (And.intro k3 (Exists.intro 0 (Exists.intro n1 (And.intro k4 (And.intro B1 (Exists.intro n2 (And.intro k5 (And.intro B2 (And.intro rfl (And.intro k1 (And.intro k1 (And.intro rfl (And.intro rfl H3)))))))))))))))))))
/-- SnapshotRings$Graph.findRing from 0 -/
theorem r_G_findRing_0 {v0 : Nat} {h : sn_H} {Q : Option Value → sn_H → Prop}
    (k1 : hK h v0 = (0, 3, 10))
    (H1 : 0 ≤ ((hG (setG h v0 9 (nI 0)) v0 0) - nI 1) → wpE 37 0 [some (.ref v0), some (.int ((hG (setG h v0 9 (nI 0)) v0 0) - nI 1)), none, none, none, none] [] (setG h v0 9 (nI 0)) (0, 0) (fun r hh => wpE 36 22 [some (.ref v0), some (.int ((hG (setG h v0 9 (nI 0)) v0 0) - nI 1)), none, none, none] (r.toList ++ []) hh (0, 0) Q))
    (H2 : ¬ 0 ≤ ((hG (setG h v0 9 (nI 0)) v0 0) - nI 1) → Q none (setG h v0 9 (nI 0))) :
    wpE 36 0 [some (.ref v0), none, none, none, none] [] h (0, 0) Q :=
  vc_s (ct := fun pc => Nat.beq pc 27 || Nat.beq pc 74 || Nat.beq pc 95) 1000 false (And.intro k1 (And.intro rfl (And.intro k1 (And.intro (Nat.le_of_ble_eq_true rfl) (And.intro (fun c1 => (And.intro k1 (And.intro (Nat.le_of_ble_eq_true rfl) (And.intro (Nat.le_of_ble_eq_true rfl) (And.intro (Nat.le_of_ble_eq_true rfl) (And.intro (Nat.le_of_ble_eq_true rfl) (H1 c1))))))) (fun c2 => (And.intro rfl (H2 c2))))))))
/-- SnapshotRings$Graph.findRing from 22 -/
theorem r_G_findRing_22 {v0 : Nat} {v1 : Int32} {h : sn_H} {Q : Option Value → sn_H → Prop}
    (H1 : wpE 36 27 [some (.ref v0), some (.int v1), some (.int (nI 17)), some (.int (nI 0)), none] [] h (0, 0) Q) :
    wpE 36 22 [some (.ref v0), some (.int v1), none, none, none] [] h (0, 0) Q :=
  vc_s (ct := fun pc => Nat.beq pc 27 || Nat.beq pc 74 || Nat.beq pc 95) 1000 false (And.intro (Nat.le_of_ble_eq_true rfl) (And.intro (Nat.le_of_ble_eq_true rfl) H1))
/-- SnapshotRings$Graph.findRing from 27 -/
theorem r_G_findRing_27 {v0 : Nat} {v1 : Int32} {v2 : Int32} {v3 : Int32} {q1 : Nat} {n1 : Nat} {q2 : Nat} {n2 : Nat} {h : sn_H} {Q : Option Value → sn_H → Prop}
    (k1 : hK h v0 = (0, 3, 10))
    (k2 : hR h v0 4 = some q1)
    (k3 : hK h q1 = (1, 0, n1))
    (k4 : hR h v0 7 = some q2)
    (k5 : hK h q2 = (1, 0, n2))
    (H1 : v1 ≤ v3 → ¬ v2 = nI 17 → wpE 36 74 [some (.ref v0), none, none, some (.int v1), some (.int v2)] [] h (0, 0) Q)
    (H2 : v1 ≤ v3 → v2 = nI 17 → Q none h)
    (B3 : ¬ v1 ≤ v3 → vp_in v1 n1)
    (H4 : ¬ v1 ≤ v3 → ¬ (((hG h q1 v1.toNatClampNeg) >>> (v3 &&& 31)) &&& nI 1) = nI 1 → wpE 36 27 [some (.ref v0), some (.int v1), some (.int v2), some (.int (v3 + nI 1)), none] [] h (0, 0) Q)
    (B5 : ¬ v1 ≤ v3 → (((hG h q1 v1.toNatClampNeg) >>> (v3 &&& 31)) &&& nI 1) = nI 1 → vp_in v3 n2)
    (H6 : ¬ v1 ≤ v3 → (((hG h q1 v1.toNatClampNeg) >>> (v3 &&& 31)) &&& nI 1) = nI 1 → wpE 36 27 [some (.ref v0), some (.int v1), some (.int (if (hG h q2 v3.toNatClampNeg) < v2 then (hG h q2 v3.toNatClampNeg) else v2)), some (.int (v3 + nI 1)), none] [] h (0, 0) Q) :
    wpE 36 27 [some (.ref v0), some (.int v1), some (.int v2), some (.int v3), none] [] h (0, 0) Q :=
  vc_s (ct := fun pc => Nat.beq pc 27 || Nat.beq pc 74 || Nat.beq pc 95) 1000 false (And.intro (fun c1 => (And.intro (fun c2 => (And.intro (Nat.le_of_ble_eq_true rfl) (And.intro (Nat.le_of_ble_eq_true rfl) (@wpE_w _ _ [some (.ref v0), none, none, some (.int v1), some (.int v2)] _ _ _ _ _ (show LeL [some (.ref v0), none, none, some (.int v1), some (.int v2)] [some (.ref v0), some (.int v1), some (.int v2), some (.int v1), some (.int v2)] from (And.intro rfl (And.intro rfl (And.intro rfl trivial)))) (H1 c1 c2))))) (fun c3 => (And.intro rfl (H2 c1 c3))))) (fun c4 => (And.intro k1 (Exists.intro q1 (And.intro k2 (Exists.intro 0 (Exists.intro n1 (And.intro k3 (And.intro (B3 c4) (And.intro (Nat.le_of_ble_eq_true rfl) (And.intro (Nat.le_of_ble_eq_true rfl) (And.intro (Nat.le_of_ble_eq_true rfl) (And.intro (Nat.le_of_ble_eq_true rfl) (r_X_hasBit_0 (v0 := (hG h q1 v1.toNatClampNeg)) (v1 := v3) (h := h) (fun c5 => (vc_s (ct := fun pc => Nat.beq pc 27 || Nat.beq pc 74 || Nat.beq pc 95) 1000 false (And.intro (fun c6 => (And.intro (Nat.le_of_ble_eq_true rfl) (H4 c4 c5))) (fun c6 => absurd c6 (by decide))))) (fun c7 => (vc_s (ct := fun pc => Nat.beq pc 27 || Nat.beq pc 74 || Nat.beq pc 95) 1000 false (And.intro (fun c8 => absurd c8 (by decide)) (fun c8 => (And.intro k1 (Exists.intro q2 (And.intro k4 (Exists.intro 0 (Exists.intro n2 (And.intro k5 (And.intro (B5 c4 c7) (And.intro (Nat.le_of_ble_eq_true rfl) (And.intro (Nat.le_of_ble_eq_true rfl) (And.intro (Nat.le_of_ble_eq_true rfl) (H6 c4 c7)))))))))))))))))))))))))))))
/-- SnapshotRings$Graph.findRing from 74 -/
theorem r_G_findRing_74 {v0 : Nat} {v3 : Int32} {v4 : Int32} {h : sn_H} {Q : Option Value → sn_H → Prop}
    (k1 : hK h v0 = (0, 3, 10))
    (H1 : v4 ≤ 0 → Q none h)
    (H2 : ¬ v4 ≤ 0 → wpE 38 0 [some (.ref v0), some (.int v3), some (.int v4), none] [] h (0, 0) (fun r hh => wpE 36 86 [some (.ref v0), none, none, none, some (.int v4)] (r.toList ++ []) hh (0, 0) Q)) :
    wpE 36 74 [some (.ref v0), none, none, some (.int v3), some (.int v4)] [] h (0, 0) Q :=
  vc_s (ct := fun pc => Nat.beq pc 27 || Nat.beq pc 74 || Nat.beq pc 95) 1000 false (And.intro (fun c1 => (And.intro rfl (H1 c1))) (fun c2 => (And.intro k1 (And.intro (Nat.le_of_ble_eq_true rfl) (And.intro (Nat.le_of_ble_eq_true rfl) (And.intro (Nat.le_of_ble_eq_true rfl) (And.intro (Nat.le_of_ble_eq_true rfl) (wpE_m (fun _ _ HH => @wpE_w _ _ [some (.ref v0), none, none, none, some (.int v4)] _ _ _ _ _ (show LeL [some (.ref v0), none, none, none, some (.int v4)] [some (.ref v0), none, none, some (.int v3), some (.int v4)] from (And.intro rfl (And.intro rfl trivial))) HH) (H2 c2)))))))))
/-- SnapshotRings$Graph.findRing from 86 -/
theorem r_G_findRing_86 {v0 : Nat} {v4 : Int32} {s0 : Int32} {q1 : Nat} {q2 : Nat} {n1 : Nat} {n2 : Nat} {h : sn_H} {Q : Option Value → sn_H → Prop}
    (k1 : hK h v0 = (0, 3, 10))
    (k2 : hR h v0 8 = some q1)
    (k3 : hR h v0 2 = some q2)
    (k4 : hK h q2 = (1, 0, n1))
    (k5 : hK h q1 = (1, 0, n2))
    (B1 : vp_in s0 n1)
    (B2 : vp_in (hG h v0 9) n2)
    (H3 : wpE 36 95 [some (.ref v0), none, none, some (.int s0), some (.int (v4 + -(nI 1)))] [] (setG (setG h q1 (hG h v0 9).toNatClampNeg (hG h q2 s0.toNatClampNeg)) v0 9 ((hG (setG h q1 (hG h v0 9).toNatClampNeg (hG h q2 s0.toNatClampNeg)) v0 9) + nI 1)) (0, 0) Q) :
    wpE 36 86 [some (.ref v0), none, none, none, some (.int v4)] [.int s0] h (0, 0) Q :=
  vc_s (ct := fun pc => Nat.beq pc 27 || Nat.beq pc 74 || Nat.beq pc 95) 1000 false (And.intro (Nat.le_of_ble_eq_true rfl) (And.intro k1 (And.intro (Nat.le_of_ble_eq_true rfl) (And.intro (Nat.le_of_ble_eq_true rfl) (And.intro (Nat.le_of_ble_eq_true rfl) (And.intro (Nat.le_of_ble_eq_true rfl) (r_G_tell_0 (v0 := v0) (v1 := s0) (q1 := q1) (q2 := q2) (n1 := n1) (n2 := n2) (h := h) k1 k2 k3 k4 k5 (B1) (B2) ((vc_s (ct := fun pc => Nat.beq pc 27 || Nat.beq pc 74 || Nat.beq pc 95) 1000 false (And.intro (Nat.le_of_ble_eq_true rfl) H3))))))))))
/-- SnapshotRings$Graph.findRing from 95 -/
theorem r_G_findRing_95 {v0 : Nat} {v3 : Int32} {v4 : Int32} {h : sn_H} {Q : Option Value → sn_H → Prop}
    (H1 : wpE 36 74 [some (.ref v0), none, none, some (.int v3), some (.int v4)] [] h (0, 0) Q) :
    wpE 36 95 [some (.ref v0), none, none, some (.int v3), some (.int v4)] [] h (0, 0) Q :=
  vc_s (ct := fun pc => Nat.beq pc 27 || Nat.beq pc 74 || Nat.beq pc 95) 1000 false H1
/-- SnapshotRings$Graph.hasPivot from 0 -/
theorem r_G_hasPivot_0 {v0 : Nat} {h : sn_H} {Q : Option Value → sn_H → Prop}
    (k1 : hK h v0 = (0, 3, 10))
    (H1 : 0 ≤ ((hG h v0 0) - nI 1) → wpE 40 20 [some (.ref v0), some (.int ((hG h v0 0) - nI 1)), some (.int (nI 0)), some (.int (nI 0)), some (.int (nI 0)), none] [] h (0, 0) Q)
    (H2 : ¬ 0 ≤ ((hG h v0 0) - nI 1) → Q (some (.int (nI 0))) h) :
    wpE 40 0 [some (.ref v0), none, none, none, none, none] [] h (0, 0) Q :=
  vc_s (ct := fun pc => Nat.beq pc 20 || Nat.beq pc 93) 1000 false (And.intro k1 (And.intro (Nat.le_of_ble_eq_true rfl) (And.intro (fun c1 => (And.intro (Nat.le_of_ble_eq_true rfl) (And.intro (Nat.le_of_ble_eq_true rfl) (And.intro (Nat.le_of_ble_eq_true rfl) (H1 c1))))) (fun c2 => (And.intro rfl (H2 c2))))))
/-- SnapshotRings$Graph.hasPivot from 20 -/
theorem r_G_hasPivot_20 {v0 : Nat} {v1 : Int32} {v2 : Int32} {v3 : Int32} {v4 : Int32} {q1 : Nat} {n1 : Nat} {h : sn_H} {Q : Option Value → sn_H → Prop}
    (k1 : hK h v0 = (0, 3, 10))
    (k2 : hR h v0 5 = some q1)
    (k3 : hK h q1 = (1, 0, n1))
    (B1 : (hG h v0 0) ≤ v4 → ¬ (((v2 &&& v3) >>> (v1 &&& 31)) &&& nI 1) = nI 1 → vp_in v1 n1)
    (H2 : (hG h v0 0) ≤ v4 → ¬ (((v2 &&& v3) >>> (v1 &&& 31)) &&& nI 1) = nI 1 → ((hG h q1 v1.toNatClampNeg) &&& (v2 &&& v3)) = 0 → wpE 40 93 [some (.ref v0), some (.int v1), none, none, some (.int (v2 &&& v3)), some (.int (nI 0))] [] h (0, 0) Q)
    (H3 : (hG h v0 0) ≤ v4 → ¬ (((v2 &&& v3) >>> (v1 &&& 31)) &&& nI 1) = nI 1 → ¬ ((hG h q1 v1.toNatClampNeg) &&& (v2 &&& v3)) = 0 → Q (some (.int (nI 1))) h)
    (H4 : (hG h v0 0) ≤ v4 → (((v2 &&& v3) >>> (v1 &&& 31)) &&& nI 1) = nI 1 → Q (some (.int (nI 1))) h)
    (B5 : ¬ (hG h v0 0) ≤ v4 → vp_in v4 n1)
    (H6 : ¬ (hG h v0 0) ≤ v4 → (hG h q1 v4.toNatClampNeg) = 0 → wpE 40 20 [some (.ref v0), some (.int v1), some (.int (v2 ||| (hG h q1 v4.toNatClampNeg))), some (.int v3), some (.int (v4 + nI 1)), none] [] h (0, 0) Q)
    (H7 : ¬ (hG h v0 0) ≤ v4 → ¬ (hG h q1 v4.toNatClampNeg) = 0 → wpE 40 20 [some (.ref v0), some (.int v1), some (.int (v2 ||| (hG h q1 v4.toNatClampNeg))), some (.int (v3 ||| (nI 1 <<< (v4 &&& 31)))), some (.int (v4 + nI 1)), none] [] h (0, 0) Q) :
    wpE 40 20 [some (.ref v0), some (.int v1), some (.int v2), some (.int v3), some (.int v4), none] [] h (0, 0) Q :=
  vc_s (ct := fun pc => Nat.beq pc 20 || Nat.beq pc 93) 1000 false (And.intro k1 (And.intro (fun c1 => (And.intro (Nat.le_of_ble_eq_true rfl) (And.intro (Nat.le_of_ble_eq_true rfl) (And.intro (Nat.le_of_ble_eq_true rfl) (And.intro (Nat.le_of_ble_eq_true rfl) (And.intro (Nat.le_of_ble_eq_true rfl) (r_X_hasBit_0 (v0 := (v2 &&& v3)) (v1 := v1) (h := h) (fun c2 => (vc_s (ct := fun pc => Nat.beq pc 20 || Nat.beq pc 93) 1000 false (And.intro (fun c3 => absurd c3 (by decide)) (fun c3 => (And.intro k1 (Exists.intro q1 (And.intro k2 (Exists.intro 0 (Exists.intro n1 (And.intro k3 (And.intro (B1 c1 c2) (And.intro (fun c4 => (And.intro (Nat.le_of_ble_eq_true rfl) (@wpE_w _ _ [some (.ref v0), some (.int v1), none, none, some (.int (v2 &&& v3)), some (.int (nI 0))] _ _ _ _ _ (show LeL [some (.ref v0), some (.int v1), none, none, some (.int (v2 &&& v3)), some (.int (nI 0))] [some (.ref v0), some (.int v1), some (.int v2), some (.int v3), some (.int (v2 &&& v3)), some (.int (nI 0))] from (And.intro rfl (And.intro rfl (And.intro rfl (And.intro rfl trivial))))) (H2 c1 c2 c4)))) (fun c5 => (And.intro rfl (H3 c1 c2 c5))))))))))))))) (fun c6 => (vc_s (ct := fun pc => Nat.beq pc 20 || Nat.beq pc 93) 1000 false (And.intro (fun c7 => (And.intro rfl (H4 c1 c6))) (fun c7 => absurd c7 (by decide)))))))))))) (fun c8 => (And.intro k1 (Exists.intro q1 (And.intro k2 (Exists.intro 0 (Exists.intro n1 (And.intro k3 (And.intro (B5 c8) (And.intro (Nat.le_of_ble_eq_true rfl) (And.intro k1 (Exists.intro q1 (And.intro k2 (Exists.intro 0 (Exists.intro n1 (And.intro k3 (And.intro (B5 c8) (And.intro (fun c9 => (And.intro (Nat.le_of_ble_eq_true rfl) (H6 c8 c9))) (fun c10 => (And.intro (Nat.le_of_ble_eq_true rfl) (And.intro (Nat.le_of_ble_eq_true rfl) (H7 c8 c10)))))))))))))))))))))))
/-- SnapshotRings$Graph.hasPivot from 93 -/
theorem r_G_hasPivot_93 {v0 : Nat} {v1 : Int32} {v4 : Int32} {v5 : Int32} {q1 : Nat} {n1 : Nat} {h : sn_H} {Q : Option Value → sn_H → Prop}
    (k1 : hK h v0 = (0, 3, 10))
    (k2 : hR h v0 5 = some q1)
    (k3 : hK h q1 = (1, 0, n1))
    (H1 : v1 ≤ v5 → Q (some (.int (nI 0))) h)
    (H2 : ¬ v1 ≤ v5 → ¬ ((v4 >>> (v5 &&& 31)) &&& nI 1) = nI 1 → wpE 40 93 [some (.ref v0), some (.int v1), none, none, some (.int v4), some (.int (v5 + nI 1))] [] h (0, 0) Q)
    (B3 : ¬ v1 ≤ v5 → ((v4 >>> (v5 &&& 31)) &&& nI 1) = nI 1 → vp_in v5 n1)
    (H4 : ¬ v1 ≤ v5 → ((v4 >>> (v5 &&& 31)) &&& nI 1) = nI 1 → ¬ (((hG h q1 v5.toNatClampNeg) >>> (v1 &&& 31)) &&& nI 1) = nI 1 → wpE 40 93 [some (.ref v0), some (.int v1), none, none, some (.int v4), some (.int (v5 + nI 1))] [] h (0, 0) Q)
    (H5 : ¬ v1 ≤ v5 → ((v4 >>> (v5 &&& 31)) &&& nI 1) = nI 1 → (((hG h q1 v5.toNatClampNeg) >>> (v1 &&& 31)) &&& nI 1) = nI 1 → Q (some (.int (nI 1))) h) :
    wpE 40 93 [some (.ref v0), some (.int v1), none, none, some (.int v4), some (.int v5)] [] h (0, 0) Q :=
  vc_s (ct := fun pc => Nat.beq pc 20 || Nat.beq pc 93) 1000 false (And.intro (fun c1 => (And.intro rfl (H1 c1))) (fun c2 => (And.intro (Nat.le_of_ble_eq_true rfl) (And.intro (Nat.le_of_ble_eq_true rfl) (And.intro (Nat.le_of_ble_eq_true rfl) (And.intro (Nat.le_of_ble_eq_true rfl) (r_X_hasBit_0 (v0 := v4) (v1 := v5) (h := h) (fun c3 => (vc_s (ct := fun pc => Nat.beq pc 20 || Nat.beq pc 93) 1000 false (And.intro (fun c4 => (And.intro (Nat.le_of_ble_eq_true rfl) (H2 c2 c3))) (fun c4 => absurd c4 (by decide))))) (fun c5 => (vc_s (ct := fun pc => Nat.beq pc 20 || Nat.beq pc 93) 1000 false (And.intro (fun c6 => absurd c6 (by decide)) (fun c6 => (And.intro k1 (Exists.intro q1 (And.intro k2 (Exists.intro 0 (Exists.intro n1 (And.intro k3 (And.intro (B3 c2 c5) (And.intro (Nat.le_of_ble_eq_true rfl) (And.intro (Nat.le_of_ble_eq_true rfl) (And.intro (Nat.le_of_ble_eq_true rfl) (And.intro (Nat.le_of_ble_eq_true rfl) (r_X_hasBit_0 (v0 := (hG h q1 v5.toNatClampNeg)) (v1 := v1) (h := h) (fun c7 => (vc_s (ct := fun pc => Nat.beq pc 20 || Nat.beq pc 93) 1000 false (And.intro (fun c8 => (And.intro (Nat.le_of_ble_eq_true rfl) (H4 c2 c5 c7))) (fun c8 => absurd c8 (by decide))))) (fun c9 => (vc_s (ct := fun pc => Nat.beq pc 20 || Nat.beq pc 93) 1000 false (And.intro (fun c10 => absurd c10 (by decide)) (fun c10 => (And.intro rfl (H5 c2 c5 c9)))))))))))))))))))))))))))))
/-- SnapshotRings$Graph.toldAt from 0 -/
theorem r_G_toldAt_0 {v0 : Nat} {v1 : Int32} {q1 : Nat} {n1 : Nat} {h : sn_H} {Q : Option Value → sn_H → Prop}
    (k1 : hK h v0 = (0, 3, 10))
    (k2 : hR h v0 8 = some q1)
    (k3 : hK h q1 = (1, 0, n1))
    (H1 : v1 < 0 → Q (some (.int (-(nI 20006)))) h)
    (H2 : ¬ v1 < 0 → (hG h v0 9) ≤ v1 → Q (some (.int (-(nI 20006)))) h)
    (B3 : ¬ v1 < 0 → ¬ (hG h v0 9) ≤ v1 → vp_in v1 n1)
    (H4 : ¬ v1 < 0 → ¬ (hG h v0 9) ≤ v1 → Q (some (.int (hG h q1 v1.toNatClampNeg))) h) :
    wpE 67 0 [some (.ref v0), some (.int v1)] [] h (0, 0) Q :=
  vc_s (ct := fun _ => false) 1000 false (And.intro (fun c1 => (H1 c1)) (fun c2 => (And.intro k1 (And.intro (fun c3 => (H2 c2 c3)) (fun c4 => (And.intro k1 (Exists.intro q1 (And.intro k2 (Exists.intro 0 (Exists.intro n1 (And.intro k3 (And.intro (B3 c2 c4) (H4 c2 c4)))))))))))))
/-- SnapshotRings$Graph.lowestPossible from 0 -/
theorem r_G_lowestPossible_0 {v0 : Nat} {v1 : Int32} {h : sn_H} {Q : Option Value → sn_H → Prop}
    (H1 : wpE 73 4 [some (.ref v0), some (.int v1), some (.int v1), some (.int (nI 0))] [] h (0, 0) Q) :
    wpE 73 0 [some (.ref v0), some (.int v1), none, none] [] h (0, 0) Q :=
  vc_s (ct := fun pc => Nat.beq pc 4 || Nat.beq pc 37) 1000 false (And.intro (Nat.le_of_ble_eq_true rfl) (And.intro (Nat.le_of_ble_eq_true rfl) H1))
/-- SnapshotRings$Graph.lowestPossible from 4 -/
theorem r_G_lowestPossible_4 {v0 : Nat} {v1 : Int32} {v2 : Int32} {v3 : Int32} {q1 : Nat} {n1 : Nat} {h : sn_H} {Q : Option Value → sn_H → Prop}
    (k1 : hK h v0 = (0, 3, 10))
    (k2 : hR h v0 4 = some q1)
    (k3 : hK h q1 = (1, 0, n1))
    (H1 : (hG h v0 0) ≤ v3 → wpE 73 37 [some (.ref v0), none, some (.int v2), some (.int (nI 0))] [] h (0, 0) Q)
    (B2 : ¬ (hG h v0 0) ≤ v3 → ¬ ((v1 >>> (v3 &&& 31)) &&& nI 1) = nI 1 → vp_in v3 n1)
    (H3 : ¬ (hG h v0 0) ≤ v3 → ¬ ((v1 >>> (v3 &&& 31)) &&& nI 1) = nI 1 → wpE 73 4 [some (.ref v0), some (.int v1), some (.int (v2 ||| (hG h q1 v3.toNatClampNeg))), some (.int (v3 + nI 1))] [] h (0, 0) Q)
    (H4 : ¬ (hG h v0 0) ≤ v3 → ((v1 >>> (v3 &&& 31)) &&& nI 1) = nI 1 → wpE 73 4 [some (.ref v0), some (.int v1), some (.int v2), some (.int (v3 + nI 1))] [] h (0, 0) Q) :
    wpE 73 4 [some (.ref v0), some (.int v1), some (.int v2), some (.int v3)] [] h (0, 0) Q :=
  vc_s (ct := fun pc => Nat.beq pc 4 || Nat.beq pc 37) 1000 false (And.intro k1 (And.intro (fun c1 => (And.intro (Nat.le_of_ble_eq_true rfl) (@wpE_w _ _ [some (.ref v0), none, some (.int v2), some (.int (nI 0))] _ _ _ _ _ (show LeL [some (.ref v0), none, some (.int v2), some (.int (nI 0))] [some (.ref v0), some (.int v1), some (.int v2), some (.int (nI 0))] from (And.intro rfl (And.intro rfl (And.intro rfl trivial)))) (H1 c1)))) (fun c2 => (And.intro (Nat.le_of_ble_eq_true rfl) (And.intro (Nat.le_of_ble_eq_true rfl) (And.intro (Nat.le_of_ble_eq_true rfl) (And.intro (Nat.le_of_ble_eq_true rfl) (r_X_hasBit_0 (v0 := v1) (v1 := v3) (h := h) (fun c3 => (vc_s (ct := fun pc => Nat.beq pc 4 || Nat.beq pc 37) 1000 false (And.intro (fun c4 => absurd c4 (by decide)) (fun c4 => (And.intro k1 (Exists.intro q1 (And.intro k2 (Exists.intro 0 (Exists.intro n1 (And.intro k3 (And.intro (B2 c2 c3) (And.intro (Nat.le_of_ble_eq_true rfl) (And.intro (Nat.le_of_ble_eq_true rfl) (H3 c2 c3)))))))))))))) (fun c5 => (vc_s (ct := fun pc => Nat.beq pc 4 || Nat.beq pc 37) 1000 false (And.intro (fun c6 => (And.intro (Nat.le_of_ble_eq_true rfl) (H4 c2 c5))) (fun c6 => absurd c6 (by decide)))))))))))))
/-- SnapshotRings$Graph.lowestPossible from 37 -/
theorem r_G_lowestPossible_37 {v0 : Nat} {v2 : Int32} {v3 : Int32} {h : sn_H} {Q : Option Value → sn_H → Prop}
    (k1 : hK h v0 = (0, 3, 10))
    (H1 : (hG h v0 0) ≤ v3 → Q (some (.int (-(nI 1)))) h)
    (H2 : ¬ (hG h v0 0) ≤ v3 → ¬ ((v2 >>> (v3 &&& 31)) &&& nI 1) = nI 1 → Q (some (.int v3)) h)
    (H3 : ¬ (hG h v0 0) ≤ v3 → ((v2 >>> (v3 &&& 31)) &&& nI 1) = nI 1 → wpE 73 37 [some (.ref v0), none, some (.int v2), some (.int (v3 + nI 1))] [] h (0, 0) Q) :
    wpE 73 37 [some (.ref v0), none, some (.int v2), some (.int v3)] [] h (0, 0) Q :=
  vc_s (ct := fun pc => Nat.beq pc 4 || Nat.beq pc 37) 1000 false (And.intro k1 (And.intro (fun c1 => (H1 c1)) (fun c2 => (And.intro (Nat.le_of_ble_eq_true rfl) (And.intro (Nat.le_of_ble_eq_true rfl) (And.intro (Nat.le_of_ble_eq_true rfl) (And.intro (Nat.le_of_ble_eq_true rfl) (r_X_hasBit_0 (v0 := v2) (v1 := v3) (h := h) (fun c3 => (vc_s (ct := fun pc => Nat.beq pc 4 || Nat.beq pc 37) 1000 false (And.intro (fun c4 => absurd c4 (by decide)) (fun c4 => (H2 c2 c3))))) (fun c5 => (vc_s (ct := fun pc => Nat.beq pc 4 || Nat.beq pc 37) 1000 false (And.intro (fun c6 => (And.intro (Nat.le_of_ble_eq_true rfl) (H3 c2 c5))) (fun c6 => absurd c6 (by decide)))))))))))))
/-- SnapshotRings$Graph.findOrder from 0 -/
theorem r_G_findOrder_0 {v0 : Nat} {h : sn_H} {Q : Option Value → sn_H → Prop}
    (k1 : hK h v0 = (0, 3, 10))
    (H1 : wpE 72 9 [some (.ref v0), some (.int (nI 0)), some (.int (nI 0)), none] [] (setG h v0 9 (nI 0)) (0, 0) Q) :
    wpE 72 0 [some (.ref v0), none, none, none] [] h (0, 0) Q :=
  vc_s (ct := fun pc => Nat.beq pc 9 || Nat.beq pc 44) 1000 false (And.intro k1 (And.intro rfl (And.intro (Nat.le_of_ble_eq_true rfl) (And.intro (Nat.le_of_ble_eq_true rfl) H1))))
/-- SnapshotRings$Graph.findOrder from 9 -/
theorem r_G_findOrder_9 {v0 : Nat} {v1 : Int32} {v2 : Int32} {h : sn_H} {Q : Option Value → sn_H → Prop}
    (k1 : hK h v0 = (0, 3, 10))
    (H1 : (hG h v0 0) ≤ v2 → Q none h)
    (H2 : ¬ (hG h v0 0) ≤ v2 → wpE 73 0 [some (.ref v0), some (.int v1), none, none] [] h (0, 0) (fun r hh => wpE 72 22 [some (.ref v0), some (.int v1), some (.int v2), none] (r.toList ++ []) hh (0, 0) Q)) :
    wpE 72 9 [some (.ref v0), some (.int v1), some (.int v2), none] [] h (0, 0) Q :=
  vc_s (ct := fun pc => Nat.beq pc 9 || Nat.beq pc 44) 1000 false (And.intro k1 (And.intro (fun c1 => (And.intro rfl (H1 c1))) (fun c2 => (And.intro k1 (And.intro (Nat.le_of_ble_eq_true rfl) (And.intro (Nat.le_of_ble_eq_true rfl) (And.intro (Nat.le_of_ble_eq_true rfl) (And.intro (Nat.le_of_ble_eq_true rfl) (H2 c2)))))))))
/-- SnapshotRings$Graph.findOrder from 22 -/
theorem r_G_findOrder_22 {v0 : Nat} {v1 : Int32} {v2 : Int32} {s0 : Int32} {q1 : Nat} {q2 : Nat} {n1 : Nat} {n2 : Nat} {h : sn_H} {Q : Option Value → sn_H → Prop}
    (k1 : hK h v0 = (0, 3, 10))
    (k2 : hR h v0 8 = some q1)
    (k3 : hR h v0 2 = some q2)
    (k4 : hK h q2 = (1, 0, n1))
    (k5 : hK h q1 = (1, 0, n2))
    (B1 : 0 ≤ s0 → vp_in s0 n1)
    (B2 : 0 ≤ s0 → vp_in (hG h v0 9) n2)
    (H3 : 0 ≤ s0 → wpE 72 44 [some (.ref v0), some (.int (v1 ||| (nI 1 <<< (s0 &&& 31)))), some (.int v2), none] [] (setG (setG h q1 (hG h v0 9).toNatClampNeg (hG h q2 s0.toNatClampNeg)) v0 9 ((hG (setG h q1 (hG h v0 9).toNatClampNeg (hG h q2 s0.toNatClampNeg)) v0 9) + nI 1)) (0, 0) Q)
    (H4 : ¬ 0 ≤ s0 → Q none (setG h v0 9 (nI 0))) :
    wpE 72 22 [some (.ref v0), some (.int v1), some (.int v2), none] [.int s0] h (0, 0) Q :=
  vc_s (ct := fun pc => Nat.beq pc 9 || Nat.beq pc 44) 1000 false (And.intro (Nat.le_of_ble_eq_true rfl) (And.intro (fun c1 => (And.intro k1 (And.intro (Nat.le_of_ble_eq_true rfl) (And.intro (Nat.le_of_ble_eq_true rfl) (And.intro (Nat.le_of_ble_eq_true rfl) (And.intro (Nat.le_of_ble_eq_true rfl) (r_G_tell_0 (v0 := v0) (v1 := s0) (q1 := q1) (q2 := q2) (n1 := n1) (n2 := n2) (h := h) k1 k2 k3 k4 k5 ((B1 c1)) ((B2 c1)) ((vc_s (ct := fun pc => Nat.beq pc 9 || Nat.beq pc 44) 1000 false (And.intro (Nat.le_of_ble_eq_true rfl) (@wpE_w _ _ [some (.ref v0), some (.int (v1 ||| (nI 1 <<< (s0 &&& 31)))), some (.int v2), none] _ _ _ _ _ (show LeL [some (.ref v0), some (.int (v1 ||| (nI 1 <<< (s0 &&& 31)))), some (.int v2), none] [some (.ref v0), some (.int (v1 ||| (nI 1 <<< (s0 &&& 31)))), some (.int v2), some (.int s0)] from (And.intro rfl (And.intro rfl (And.intro rfl trivial)))) (H3 c1)))))))))))) (fun c2 => (And.intro k1 (And.intro rfl (And.intro rfl (H4 c2)))))))
/-- SnapshotRings$Graph.findOrder from 44 -/
theorem r_G_findOrder_44 {v0 : Nat} {v1 : Int32} {v2 : Int32} {h : sn_H} {Q : Option Value → sn_H → Prop}
    (H1 : wpE 72 9 [some (.ref v0), some (.int v1), some (.int (v2 + nI 1)), none] [] h (0, 0) Q) :
    wpE 72 44 [some (.ref v0), some (.int v1), some (.int v2), none] [] h (0, 0) Q :=
  vc_s (ct := fun pc => Nat.beq pc 9 || Nat.beq pc 44) 1000 false (And.intro (Nat.le_of_ble_eq_true rfl) H1)
/-- SnapshotRings$Graph.countNodesInRings from 0 -/
theorem r_G_countNodesInRings_0 {v0 : Nat} {h : sn_H} {Q : Option Value → sn_H → Prop}
    (H1 : wpE 77 2 [some (.ref v0), some (.int (nI 0)), none] [] h (0, 0) Q) :
    wpE 77 0 [some (.ref v0), none, none] [] h (0, 0) Q :=
  vc_s (ct := fun pc => Nat.beq pc 2 || Nat.beq pc 30 || Nat.beq pc 40 || Nat.beq pc 92) 1000 false (And.intro (Nat.le_of_ble_eq_true rfl) H1)
/-- SnapshotRings$Graph.countNodesInRings from 2 -/
theorem r_G_countNodesInRings_2 {v0 : Nat} {v1 : Int32} {q1 : Nat} {q2 : Nat} {n1 : Nat} {n2 : Nat} {h : sn_H} {Q : Option Value → sn_H → Prop}
    (k1 : hK h v0 = (0, 3, 10))
    (k2 : hR h v0 6 = some q1)
    (k3 : hR h v0 4 = some q2)
    (k4 : hK h q2 = (1, 0, n1))
    (k5 : hK h q1 = (1, 0, n2))
    (H1 : (hG h v0 0) ≤ v1 → wpE 77 30 [some (.ref v0), some (.int (nI 0)), none] [] h (0, 0) Q)
    (B2 : ¬ (hG h v0 0) ≤ v1 → vp_in v1 n1)
    (B3 : ¬ (hG h v0 0) ≤ v1 → vp_in v1 n2)
    (H4 : ¬ (hG h v0 0) ≤ v1 → wpE 77 2 [some (.ref v0), some (.int (v1 + nI 1)), none] [] (setG h q1 v1.toNatClampNeg (hG h q2 v1.toNatClampNeg)) (0, 0) Q) :
    wpE 77 2 [some (.ref v0), some (.int v1), none] [] h (0, 0) Q :=
  vc_s (ct := fun pc => Nat.beq pc 2 || Nat.beq pc 30 || Nat.beq pc 40 || Nat.beq pc 92) 1000 false (And.intro k1 (And.intro (fun c1 => (And.intro (Nat.le_of_ble_eq_true rfl) (H1 c1))) (fun c2 => (And.intro k1 (Exists.intro q1 (And.intro k2 (And.intro k1 (Exists.intro q2 (And.intro k3 (Exists.intro 0 (Exists.intro n1 (And.intro k4 (And.intro (B2 c2) (Exists.intro n2 (And.intro k5 (And.intro (B3 c2) (And.intro (Nat.le_of_ble_eq_true rfl) (H4 c2))))))))))))))))))
/-- SnapshotRings$Graph.countNodesInRings from 30 -/
theorem r_G_countNodesInRings_30 {v0 : Nat} {v1 : Int32} {h : sn_H} {Q : Option Value → sn_H → Prop}
    (k1 : hK h v0 = (0, 3, 10))
    (H1 : (hG h v0 0) ≤ v1 → wpE 77 92 [some (.ref v0), some (.int (nI 0)), some (.int (nI 0))] [] h (0, 0) Q)
    (H2 : ¬ (hG h v0 0) ≤ v1 → wpE 77 40 [some (.ref v0), some (.int v1), some (.int (nI 0))] [] h (0, 0) Q) :
    wpE 77 30 [some (.ref v0), some (.int v1), none] [] h (0, 0) Q :=
  vc_s (ct := fun pc => Nat.beq pc 2 || Nat.beq pc 30 || Nat.beq pc 40 || Nat.beq pc 92) 1000 false (And.intro k1 (And.intro (fun c1 => (And.intro (Nat.le_of_ble_eq_true rfl) (And.intro (Nat.le_of_ble_eq_true rfl) (H1 c1)))) (fun c2 => (And.intro (Nat.le_of_ble_eq_true rfl) (H2 c2)))))
/-- SnapshotRings$Graph.countNodesInRings from 92 -/
theorem r_G_countNodesInRings_92 {v0 : Nat} {v1 : Int32} {v2 : Int32} {q1 : Nat} {n1 : Nat} {h : sn_H} {Q : Option Value → sn_H → Prop}
    (k1 : hK h v0 = (0, 3, 10))
    (k2 : hR h v0 6 = some q1)
    (k3 : hK h q1 = (1, 0, n1))
    (H1 : (hG h v0 0) ≤ v2 → Q (some (.int v1)) h)
    (B2 : ¬ (hG h v0 0) ≤ v2 → vp_in v2 n1)
    (H3 : ¬ (hG h v0 0) ≤ v2 → ¬ (((hG h q1 v2.toNatClampNeg) >>> (v2 &&& 31)) &&& nI 1) = nI 1 → wpE 77 92 [some (.ref v0), some (.int v1), some (.int (v2 + nI 1))] [] h (0, 0) Q)
    (H4 : ¬ (hG h v0 0) ≤ v2 → (((hG h q1 v2.toNatClampNeg) >>> (v2 &&& 31)) &&& nI 1) = nI 1 → wpE 77 92 [some (.ref v0), some (.int (v1 + nI 1)), some (.int (v2 + nI 1))] [] h (0, 0) Q) :
    wpE 77 92 [some (.ref v0), some (.int v1), some (.int v2)] [] h (0, 0) Q :=
  vc_s (ct := fun pc => Nat.beq pc 2 || Nat.beq pc 30 || Nat.beq pc 40 || Nat.beq pc 92) 1000 false (And.intro k1 (And.intro (fun c1 => (H1 c1)) (fun c2 => (And.intro k1 (Exists.intro q1 (And.intro k2 (Exists.intro 0 (Exists.intro n1 (And.intro k3 (And.intro (B2 c2) (And.intro (Nat.le_of_ble_eq_true rfl) (And.intro (Nat.le_of_ble_eq_true rfl) (And.intro (Nat.le_of_ble_eq_true rfl) (And.intro (Nat.le_of_ble_eq_true rfl) (r_X_hasBit_0 (v0 := (hG h q1 v2.toNatClampNeg)) (v1 := v2) (h := h) (fun c3 => (vc_s (ct := fun pc => Nat.beq pc 2 || Nat.beq pc 30 || Nat.beq pc 40 || Nat.beq pc 92) 1000 false (And.intro (fun c4 => (And.intro (Nat.le_of_ble_eq_true rfl) (H3 c2 c3))) (fun c4 => absurd c4 (by decide))))) (fun c5 => (vc_s (ct := fun pc => Nat.beq pc 2 || Nat.beq pc 30 || Nat.beq pc 40 || Nat.beq pc 92) 1000 false (And.intro (fun c6 => absurd c6 (by decide)) (fun c6 => (And.intro (Nat.le_of_ble_eq_true rfl) (And.intro (Nat.le_of_ble_eq_true rfl) (H4 c2 c5))))))))))))))))))))))
/-- SnapshotRings$Graph.countNodesInRings from 40 -/
theorem r_G_countNodesInRings_40 {v0 : Nat} {v1 : Int32} {v2 : Int32} {q1 : Nat} {n1 : Nat} {h : sn_H} {Q : Option Value → sn_H → Prop}
    (k1 : hK h v0 = (0, 3, 10))
    (k2 : hR h v0 6 = some q1)
    (k3 : hK h q1 = (1, 0, n1))
    (H1 : (hG h v0 0) ≤ v2 → wpE 77 30 [some (.ref v0), some (.int (v1 + nI 1)), none] [] h (0, 0) Q)
    (B2 : ¬ (hG h v0 0) ≤ v2 → vp_in v2 n1)
    (H3 : ¬ (hG h v0 0) ≤ v2 → ¬ (((hG h q1 v2.toNatClampNeg) >>> (v1 &&& 31)) &&& nI 1) = nI 1 → wpE 77 40 [some (.ref v0), some (.int v1), some (.int (v2 + nI 1))] [] h (0, 0) Q)
    (B4 : ¬ (hG h v0 0) ≤ v2 → (((hG h q1 v2.toNatClampNeg) >>> (v1 &&& 31)) &&& nI 1) = nI 1 → vp_in v1 n1)
    (H5 : ¬ (hG h v0 0) ≤ v2 → (((hG h q1 v2.toNatClampNeg) >>> (v1 &&& 31)) &&& nI 1) = nI 1 → wpE 77 40 [some (.ref v0), some (.int v1), some (.int (v2 + nI 1))] [] (setG h q1 v2.toNatClampNeg ((hG h q1 v2.toNatClampNeg) ||| (hG h q1 v1.toNatClampNeg))) (0, 0) Q) :
    wpE 77 40 [some (.ref v0), some (.int v1), some (.int v2)] [] h (0, 0) Q :=
  vc_s (ct := fun pc => Nat.beq pc 2 || Nat.beq pc 30 || Nat.beq pc 40 || Nat.beq pc 92) 1000 false (And.intro k1 (And.intro (fun c1 => (And.intro (Nat.le_of_ble_eq_true rfl) (@wpE_w _ _ [some (.ref v0), some (.int (v1 + nI 1)), none] _ _ _ _ _ (show LeL [some (.ref v0), some (.int (v1 + nI 1)), none] [some (.ref v0), some (.int (v1 + nI 1)), some (.int v2)] from (And.intro rfl (And.intro rfl trivial))) (H1 c1)))) (fun c2 => (And.intro k1 (Exists.intro q1 (And.intro k2 (Exists.intro 0 (Exists.intro n1 (And.intro k3 (And.intro (B2 c2) (And.intro (Nat.le_of_ble_eq_true rfl) (And.intro (Nat.le_of_ble_eq_true rfl) (And.intro (Nat.le_of_ble_eq_true rfl) (And.intro (Nat.le_of_ble_eq_true rfl) (r_X_hasBit_0 (v0 := (hG h q1 v2.toNatClampNeg)) (v1 := v1) (h := h) (fun c3 => (vc_s (ct := fun pc => Nat.beq pc 2 || Nat.beq pc 30 || Nat.beq pc 40 || Nat.beq pc 92) 1000 false (And.intro (fun c4 => (And.intro (Nat.le_of_ble_eq_true rfl) (H3 c2 c3))) (fun c4 => absurd c4 (by decide))))) (fun c5 => (vc_s (ct := fun pc => Nat.beq pc 2 || Nat.beq pc 30 || Nat.beq pc 40 || Nat.beq pc 92) 1000 false (And.intro (fun c6 => absurd c6 (by decide)) (fun c6 => (And.intro k1 (Exists.intro q1 (And.intro k2 (And.intro rfl (And.intro rfl (Exists.intro 0 (Exists.intro n1 (And.intro k3 (And.intro (B2 c2) (And.intro k1 (Exists.intro q1 (And.intro k2 (Exists.intro 0 (Exists.intro n1 (And.intro k3 (And.intro (B4 c2 c5) (Exists.intro n1 (And.intro k3 (And.intro (B2 c2) (And.intro (Nat.le_of_ble_eq_true rfl) (H5 c2 c5))))))))))))))))))))))))))))))))))))))))
/-- SnapshotRings$Graph.countSkewPairs from 0 -/
theorem r_G_countSkewPairs_0 {v0 : Nat} {h : sn_H} {Q : Option Value → sn_H → Prop}
    (H1 : wpE 79 4 [some (.ref v0), some (.int (nI 0)), some (.int (nI 0)), none] [] h (0, 0) Q) :
    wpE 79 0 [some (.ref v0), none, none, none] [] h (0, 0) Q :=
  vc_s (ct := fun pc => Nat.beq pc 4 || Nat.beq pc 16) 1000 false (And.intro (Nat.le_of_ble_eq_true rfl) (And.intro (Nat.le_of_ble_eq_true rfl) H1))
/-- SnapshotRings$Graph.countSkewPairs from 4 -/
theorem r_G_countSkewPairs_4 {v0 : Nat} {v1 : Int32} {v2 : Int32} {h : sn_H} {Q : Option Value → sn_H → Prop}
    (k1 : hK h v0 = (0, 3, 10))
    (H1 : (hG h v0 0) ≤ v2 → Q (some (.int v1)) h)
    (H2 : ¬ (hG h v0 0) ≤ v2 → wpE 79 16 [some (.ref v0), some (.int v1), some (.int v2), some (.int (v2 + nI 1))] [] h (0, 0) Q) :
    wpE 79 4 [some (.ref v0), some (.int v1), some (.int v2), none] [] h (0, 0) Q :=
  vc_s (ct := fun pc => Nat.beq pc 4 || Nat.beq pc 16) 1000 false (And.intro k1 (And.intro (fun c1 => (H1 c1)) (fun c2 => (And.intro (Nat.le_of_ble_eq_true rfl) (H2 c2)))))
/-- SnapshotRings$Graph.countSkewPairs from 16 -/
theorem r_G_countSkewPairs_16 {v0 : Nat} {v1 : Int32} {v2 : Int32} {v3 : Int32} {q1 : Nat} {n1 : Nat} {h : sn_H} {Q : Option Value → sn_H → Prop}
    (k1 : hK h v0 = (0, 3, 10))
    (k2 : hR h v0 5 = some q1)
    (k3 : hK h q1 = (1, 0, n1))
    (H1 : (hG h v0 0) ≤ v3 → wpE 79 4 [some (.ref v0), some (.int v1), some (.int (v2 + nI 1)), none] [] h (0, 0) Q)
    (B2 : ¬ (hG h v0 0) ≤ v3 → vp_in v2 n1)
    (H3 : ¬ (hG h v0 0) ≤ v3 → ¬ (((hG h q1 v2.toNatClampNeg) >>> (v3 &&& 31)) &&& nI 1) = nI 1 → wpE 79 16 [some (.ref v0), some (.int v1), some (.int v2), some (.int (v3 + nI 1))] [] h (0, 0) Q)
    (B4 : ¬ (hG h v0 0) ≤ v3 → (((hG h q1 v2.toNatClampNeg) >>> (v3 &&& 31)) &&& nI 1) = nI 1 → vp_in v3 n1)
    (H5 : ¬ (hG h v0 0) ≤ v3 → (((hG h q1 v2.toNatClampNeg) >>> (v3 &&& 31)) &&& nI 1) = nI 1 → ¬ (((hG h q1 v3.toNatClampNeg) >>> (v2 &&& 31)) &&& nI 1) = nI 1 → wpE 79 16 [some (.ref v0), some (.int v1), some (.int v2), some (.int (v3 + nI 1))] [] h (0, 0) Q)
    (H6 : ¬ (hG h v0 0) ≤ v3 → (((hG h q1 v2.toNatClampNeg) >>> (v3 &&& 31)) &&& nI 1) = nI 1 → (((hG h q1 v3.toNatClampNeg) >>> (v2 &&& 31)) &&& nI 1) = nI 1 → wpE 79 16 [some (.ref v0), some (.int (v1 + nI 1)), some (.int v2), some (.int (v3 + nI 1))] [] h (0, 0) Q) :
    wpE 79 16 [some (.ref v0), some (.int v1), some (.int v2), some (.int v3)] [] h (0, 0) Q :=
  vc_s (ct := fun pc => Nat.beq pc 4 || Nat.beq pc 16) 1000 false (And.intro k1 (And.intro (fun c1 => (And.intro (Nat.le_of_ble_eq_true rfl) (@wpE_w _ _ [some (.ref v0), some (.int v1), some (.int (v2 + nI 1)), none] _ _ _ _ _ (show LeL [some (.ref v0), some (.int v1), some (.int (v2 + nI 1)), none] [some (.ref v0), some (.int v1), some (.int (v2 + nI 1)), some (.int v3)] from (And.intro rfl (And.intro rfl (And.intro rfl trivial)))) (H1 c1)))) (fun c2 => (And.intro k1 (Exists.intro q1 (And.intro k2 (Exists.intro 0 (Exists.intro n1 (And.intro k3 (And.intro (B2 c2) (And.intro (Nat.le_of_ble_eq_true rfl) (And.intro (Nat.le_of_ble_eq_true rfl) (And.intro (Nat.le_of_ble_eq_true rfl) (And.intro (Nat.le_of_ble_eq_true rfl) (r_X_hasBit_0 (v0 := (hG h q1 v2.toNatClampNeg)) (v1 := v3) (h := h) (fun c3 => (vc_s (ct := fun pc => Nat.beq pc 4 || Nat.beq pc 16) 1000 false (And.intro (fun c4 => (And.intro (Nat.le_of_ble_eq_true rfl) (H3 c2 c3))) (fun c4 => absurd c4 (by decide))))) (fun c5 => (vc_s (ct := fun pc => Nat.beq pc 4 || Nat.beq pc 16) 1000 false (And.intro (fun c6 => absurd c6 (by decide)) (fun c6 => (And.intro k1 (Exists.intro q1 (And.intro k2 (Exists.intro 0 (Exists.intro n1 (And.intro k3 (And.intro (B4 c2 c5) (And.intro (Nat.le_of_ble_eq_true rfl) (And.intro (Nat.le_of_ble_eq_true rfl) (And.intro (Nat.le_of_ble_eq_true rfl) (And.intro (Nat.le_of_ble_eq_true rfl) (r_X_hasBit_0 (v0 := (hG h q1 v3.toNatClampNeg)) (v1 := v2) (h := h) (fun c7 => (vc_s (ct := fun pc => Nat.beq pc 4 || Nat.beq pc 16) 1000 false (And.intro (fun c8 => (And.intro (Nat.le_of_ble_eq_true rfl) (H5 c2 c5 c7))) (fun c8 => absurd c8 (by decide))))) (fun c9 => (vc_s (ct := fun pc => Nat.beq pc 4 || Nat.beq pc 16) 1000 false (And.intro (fun c10 => absurd c10 (by decide)) (fun c10 => (And.intro (Nat.le_of_ble_eq_true rfl) (And.intro (Nat.le_of_ble_eq_true rfl) (H6 c2 c5 c9))))))))))))))))))))))))))))))))))))))
