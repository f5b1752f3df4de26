/-! ===== regions of the methods, printed by wip/genp/mkregions.py ===== -/
/-- SnapshotRings$State.<init> from 0 -/
theorem r_S_init_0 {v0 : Nat} {h : sn_H} {Q : Option Value → sn_H → Prop}
    (H1 : wpE 1 8 [some (.ref v0)] [.ref (hN h), .ref v0] (allocH h (1, 0, 4)) (1, 4) Q) :
    wpE 1 0 [some (.ref v0)] [] h (0, 0) Q :=
  vc_s (ct := fun pc => Nat.beq pc 8 || Nat.beq pc 15 || Nat.beq pc 22 || Nat.beq pc 30 || Nat.beq pc 38 || Nat.beq pc 46 || Nat.beq pc 54 || Nat.beq pc 62 || Nat.beq pc 71 || Nat.beq pc 79) 1000 false (And.intro (Nat.le_of_ble_eq_true rfl) (Exists.intro 4 (And.intro rfl (And.intro (Nat.le_of_ble_eq_true rfl) (And.intro (Nat.le_of_ble_eq_true rfl) (And.intro (Nat.le_of_ble_eq_true rfl) H1))))))
/-- SnapshotRings$State.<init> from 8 -/
theorem r_S_init_8 {v0 : Nat} {s0 : Nat} {s1 : Nat} {h : sn_H} {Q : Option Value → sn_H → Prop}
    (k1 : hK h s0 = (0, 1, 14))
    (H1 : wpE 1 15 [some (.ref v0)] [.ref (hN (setR h s0 4 s1)), .ref v0] (allocH (setR h s0 4 s1) (1, 0, 3)) (2, 7) Q) :
    wpE 1 8 [some (.ref v0)] [.ref s1, .ref s0] h (1, 4) Q :=
  vc_s (ct := fun pc => Nat.beq pc 8 || Nat.beq pc 15 || Nat.beq pc 22 || Nat.beq pc 30 || Nat.beq pc 38 || Nat.beq pc 46 || Nat.beq pc 54 || Nat.beq pc 62 || Nat.beq pc 71 || Nat.beq pc 79) 1000 false (And.intro k1 (And.intro rfl (Exists.intro 3 (And.intro rfl (And.intro (Nat.le_of_ble_eq_true rfl) (And.intro (Nat.le_of_ble_eq_true rfl) (And.intro (Nat.le_of_ble_eq_true rfl) H1)))))))
/-- SnapshotRings$State.<init> from 15 -/
theorem r_S_init_15 {v0 : Nat} {s0 : Nat} {s1 : Nat} {h : sn_H} {Q : Option Value → sn_H → Prop}
    (k1 : hK h s0 = (0, 1, 14))
    (H1 : wpE 1 22 [some (.ref v0)] [.ref (hN (setR h s0 5 s1)), .ref v0] (allocH (setR h s0 5 s1) (1, 0, 3)) (3, 10) Q) :
    wpE 1 15 [some (.ref v0)] [.ref s1, .ref s0] h (2, 7) Q :=
  vc_s (ct := fun pc => Nat.beq pc 8 || Nat.beq pc 15 || Nat.beq pc 22 || Nat.beq pc 30 || Nat.beq pc 38 || Nat.beq pc 46 || Nat.beq pc 54 || Nat.beq pc 62 || Nat.beq pc 71 || Nat.beq pc 79) 1000 false (And.intro k1 (And.intro rfl (Exists.intro 3 (And.intro rfl (And.intro (Nat.le_of_ble_eq_true rfl) (And.intro (Nat.le_of_ble_eq_true rfl) (And.intro (Nat.le_of_ble_eq_true rfl) H1)))))))
/-- SnapshotRings$State.<init> from 22 -/
theorem r_S_init_22 {v0 : Nat} {s0 : Nat} {s1 : Nat} {h : sn_H} {Q : Option Value → sn_H → Prop}
    (k1 : hK h s0 = (0, 1, 14))
    (H1 : wpE 1 30 [some (.ref v0)] [.ref (hN (setR h s0 6 s1)), .ref v0] (allocH (setR h s0 6 s1) (1, 0, 12)) (4, 22) Q) :
    wpE 1 22 [some (.ref v0)] [.ref s1, .ref s0] h (3, 10) Q :=
  vc_s (ct := fun pc => Nat.beq pc 8 || Nat.beq pc 15 || Nat.beq pc 22 || Nat.beq pc 30 || Nat.beq pc 38 || Nat.beq pc 46 || Nat.beq pc 54 || Nat.beq pc 62 || Nat.beq pc 71 || Nat.beq pc 79) 1000 false (And.intro k1 (And.intro rfl (Exists.intro 12 (And.intro rfl (And.intro (Nat.le_of_ble_eq_true rfl) (And.intro (Nat.le_of_ble_eq_true rfl) (And.intro (Nat.le_of_ble_eq_true rfl) H1)))))))
/-- SnapshotRings$State.<init> from 30 -/
theorem r_S_init_30 {v0 : Nat} {s0 : Nat} {s1 : Nat} {h : sn_H} {Q : Option Value → sn_H → Prop}
    (k1 : hK h s0 = (0, 1, 14))
    (H1 : wpE 1 38 [some (.ref v0)] [.ref (hN (setR h s0 7 s1)), .ref v0] (allocH (setR h s0 7 s1) (1, 0, 12)) (5, 34) Q) :
    wpE 1 30 [some (.ref v0)] [.ref s1, .ref s0] h (4, 22) Q :=
  vc_s (ct := fun pc => Nat.beq pc 8 || Nat.beq pc 15 || Nat.beq pc 22 || Nat.beq pc 30 || Nat.beq pc 38 || Nat.beq pc 46 || Nat.beq pc 54 || Nat.beq pc 62 || Nat.beq pc 71 || Nat.beq pc 79) 1000 false (And.intro k1 (And.intro rfl (Exists.intro 12 (And.intro rfl (And.intro (Nat.le_of_ble_eq_true rfl) (And.intro (Nat.le_of_ble_eq_true rfl) (And.intro (Nat.le_of_ble_eq_true rfl) H1)))))))
/-- SnapshotRings$State.<init> from 38 -/
theorem r_S_init_38 {v0 : Nat} {s0 : Nat} {s1 : Nat} {h : sn_H} {Q : Option Value → sn_H → Prop}
    (k1 : hK h s0 = (0, 1, 14))
    (H1 : wpE 1 46 [some (.ref v0)] [.ref (hN (setR h s0 8 s1)), .ref v0] (allocH (setR h s0 8 s1) (1, 0, 24)) (6, 58) Q) :
    wpE 1 38 [some (.ref v0)] [.ref s1, .ref s0] h (5, 34) Q :=
  vc_s (ct := fun pc => Nat.beq pc 8 || Nat.beq pc 15 || Nat.beq pc 22 || Nat.beq pc 30 || Nat.beq pc 38 || Nat.beq pc 46 || Nat.beq pc 54 || Nat.beq pc 62 || Nat.beq pc 71 || Nat.beq pc 79) 1000 false (And.intro k1 (And.intro rfl (Exists.intro 24 (And.intro rfl (And.intro (Nat.le_of_ble_eq_true rfl) (And.intro (Nat.le_of_ble_eq_true rfl) (And.intro (Nat.le_of_ble_eq_true rfl) H1)))))))
/-- SnapshotRings$State.<init> from 46 -/
theorem r_S_init_46 {v0 : Nat} {s0 : Nat} {s1 : Nat} {h : sn_H} {Q : Option Value → sn_H → Prop}
    (k1 : hK h s0 = (0, 1, 14))
    (H1 : wpE 1 54 [some (.ref v0)] [.ref (hN (setR h s0 9 s1)), .ref v0] (allocH (setR h s0 9 s1) (1, 0, 24)) (7, 82) Q) :
    wpE 1 46 [some (.ref v0)] [.ref s1, .ref s0] h (6, 58) Q :=
  vc_s (ct := fun pc => Nat.beq pc 8 || Nat.beq pc 15 || Nat.beq pc 22 || Nat.beq pc 30 || Nat.beq pc 38 || Nat.beq pc 46 || Nat.beq pc 54 || Nat.beq pc 62 || Nat.beq pc 71 || Nat.beq pc 79) 1000 false (And.intro k1 (And.intro rfl (Exists.intro 24 (And.intro rfl (And.intro (Nat.le_of_ble_eq_true rfl) (And.intro (Nat.le_of_ble_eq_true rfl) (And.intro (Nat.le_of_ble_eq_true rfl) H1)))))))
/-- SnapshotRings$State.<init> from 54 -/
theorem r_S_init_54 {v0 : Nat} {s0 : Nat} {s1 : Nat} {h : sn_H} {Q : Option Value → sn_H → Prop}
    (k1 : hK h s0 = (0, 1, 14))
    (H1 : wpE 1 62 [some (.ref v0)] [.ref (hN (setR h s0 10 s1)), .ref v0] (allocH (setR h s0 10 s1) (1, 0, 24)) (8, 106) Q) :
    wpE 1 54 [some (.ref v0)] [.ref s1, .ref s0] h (7, 82) Q :=
  vc_s (ct := fun pc => Nat.beq pc 8 || Nat.beq pc 15 || Nat.beq pc 22 || Nat.beq pc 30 || Nat.beq pc 38 || Nat.beq pc 46 || Nat.beq pc 54 || Nat.beq pc 62 || Nat.beq pc 71 || Nat.beq pc 79) 1000 false (And.intro k1 (And.intro rfl (Exists.intro 24 (And.intro rfl (And.intro (Nat.le_of_ble_eq_true rfl) (And.intro (Nat.le_of_ble_eq_true rfl) (And.intro (Nat.le_of_ble_eq_true rfl) H1)))))))
/-- SnapshotRings$State.<init> from 62 -/
theorem r_S_init_62 {v0 : Nat} {s0 : Nat} {s1 : Nat} {h : sn_H} {Q : Option Value → sn_H → Prop}
    (k1 : hK h s0 = (0, 1, 14))
    (H1 : wpE 1 71 [some (.ref v0)] [.ref (hN (setR h s0 11 s1)), .ref v0] (allocH (setR h s0 11 s1) (1, 0, 288)) (9, 394) Q) :
    wpE 1 62 [some (.ref v0)] [.ref s1, .ref s0] h (8, 106) Q :=
  vc_s (ct := fun pc => Nat.beq pc 8 || Nat.beq pc 15 || Nat.beq pc 22 || Nat.beq pc 30 || Nat.beq pc 38 || Nat.beq pc 46 || Nat.beq pc 54 || Nat.beq pc 62 || Nat.beq pc 71 || Nat.beq pc 79) 1000 false (And.intro k1 (And.intro rfl (Exists.intro 288 (And.intro rfl (And.intro (Nat.le_of_ble_eq_true rfl) (And.intro (Nat.le_of_ble_eq_true rfl) (And.intro (Nat.le_of_ble_eq_true rfl) H1)))))))
/-- SnapshotRings$State.<init> from 71 -/
theorem r_S_init_71 {v0 : Nat} {s0 : Nat} {s1 : Nat} {h : sn_H} {Q : Option Value → sn_H → Prop}
    (k1 : hK h s0 = (0, 1, 14))
    (H1 : wpE 1 79 [none] [.ref (hN (setR h s0 12 s1)), .ref v0] (allocH (setR h s0 12 s1) (1, 0, 96)) (10, 490) Q) :
    wpE 1 71 [some (.ref v0)] [.ref s1, .ref s0] h (9, 394) Q :=
  vc_s (ct := fun pc => Nat.beq pc 8 || Nat.beq pc 15 || Nat.beq pc 22 || Nat.beq pc 30 || Nat.beq pc 38 || Nat.beq pc 46 || Nat.beq pc 54 || Nat.beq pc 62 || Nat.beq pc 71 || Nat.beq pc 79) 1000 false (And.intro k1 (And.intro rfl (Exists.intro 96 (And.intro rfl (And.intro (Nat.le_of_ble_eq_true rfl) (And.intro (Nat.le_of_ble_eq_true rfl) (And.intro (Nat.le_of_ble_eq_true rfl) (@wpE_w _ _ [none] _ _ _ _ _ (show LeL [none] [some (.ref v0)] from trivial) H1))))))))
/-- SnapshotRings$State.<init> from 79 -/
theorem r_S_init_79 {s0 : Nat} {s1 : Nat} {h : sn_H} {Q : Option Value → sn_H → Prop}
    (k1 : hK h s0 = (0, 1, 14))
    (H1 : Q none (setR h s0 13 s1)) :
    wpE 1 79 [none] [.ref s1, .ref s0] h (10, 490) Q :=
  vc_s (ct := fun pc => Nat.beq pc 8 || Nat.beq pc 15 || Nat.beq pc 22 || Nat.beq pc 30 || Nat.beq pc 38 || Nat.beq pc 46 || Nat.beq pc 54 || Nat.beq pc 62 || Nat.beq pc 71 || Nat.beq pc 79) 1000 false (And.intro k1 (And.intro rfl (And.intro rfl H1)))
/-- SnapshotRings$History.<init> from 0 -/
theorem r_H_init_0 {v0 : Nat} {h : sn_H} {Q : Option Value → sn_H → Prop}
    (H1 : wpE 2 10 [some (.ref v0), none] [.ref (hN h), .ref v0] (allocH h (4, 1, 6)) (1, 6) Q) :
    wpE 2 0 [some (.ref v0), none] [] h (0, 0) Q :=
  vc_s (ct := fun pc => Nat.beq pc 10 || Nat.beq pc 15 || Nat.beq pc 29) 1000 false (And.intro (Nat.le_of_ble_eq_true rfl) (Exists.intro 6 (And.intro rfl (And.intro (Nat.le_of_ble_eq_true rfl) (And.intro (Nat.le_of_ble_eq_true rfl) (And.intro (Nat.le_of_ble_eq_true rfl) H1))))))
/-- SnapshotRings$History.<init> from 10 -/
theorem r_H_init_10 {v0 : Nat} {s0 : Nat} {s1 : Nat} {h : sn_H} {Q : Option Value → sn_H → Prop}
    (k1 : hK h s0 = (0, 2, 3))
    (H1 : wpE 2 15 [some (.ref v0), some (.int (nI 0))] [] (setR h s0 0 s1) (1, 6) Q) :
    wpE 2 10 [some (.ref v0), none] [.ref s1, .ref s0] h (1, 6) Q :=
  vc_s (ct := fun pc => Nat.beq pc 10 || Nat.beq pc 15 || Nat.beq pc 29) 1000 false (And.intro k1 (And.intro rfl (And.intro (Nat.le_of_ble_eq_true rfl) H1)))
/-- SnapshotRings$History.<init> from 15 -/
theorem r_H_init_15 {v0 : Nat} {v1 : Int32} {q1 : Nat} {h : sn_H} {c1 c2 : Nat} {Q : Option Value → sn_H → Prop}
    (k1 : hK h v0 = (0, 2, 3))
    (k2 : hR h v0 0 = some q1)
    (H1 : nI 6 ≤ v1 → Q none h)
    (B2 : ¬ nI 6 ≤ v1 → c1 + 1 ≤ 67)
    (B3 : ¬ nI 6 ≤ v1 → c2 + 14 ≤ 3030)
    (H4 : ¬ nI 6 ≤ v1 → wpE 2 29 [some (.ref v0), some (.int v1)] [.ref (hN h), .int v1, .ref q1] (allocH h (0, 1, 14)) (c1 + 1, c2 + 14) Q) :
    wpE 2 15 [some (.ref v0), some (.int v1)] [] h (c1, c2) Q :=
  vc_s (ct := fun pc => Nat.beq pc 10 || Nat.beq pc 15 || Nat.beq pc 29) 1000 false (And.intro (fun c1 => (And.intro rfl (H1 c1))) (fun c2 => (And.intro k1 (Exists.intro q1 (And.intro k2 (And.intro (B2 c2) (And.intro (B3 c2) (H4 c2))))))))
/-- SnapshotRings$History.<init> from 29 -/
theorem r_H_init_29 {v0 : Nat} {v1 : Int32} {s0 : Nat} {s1 : Int32} {s2 : Nat} {h : sn_H} {c1 c2 : Nat} {Q : Option Value → sn_H → Prop}
    (B1 : c1 + 10 ≤ 67)
    (B2 : c2 + 490 ≤ 3030)
    (H3 : wpE 1 0 [some (.ref s2)] [] h (0, 0) (fun r hh => wpE 2 33 [some (.ref v0), some (.int v1)] (r.toList ++ [.ref s2, .int s1, .ref s0]) hh (c1 + 10, c2 + 490) Q)) :
    wpE 2 29 [some (.ref v0), some (.int v1)] [.ref s2, .int s1, .ref s0] h (c1, c2) Q :=
  vc_s (ct := fun pc => Nat.beq pc 10 || Nat.beq pc 15 || Nat.beq pc 29) 1000 false (And.intro rfl (And.intro (Nat.le_of_ble_eq_true rfl) (And.intro B1 (And.intro B2 (And.intro (Nat.le_of_ble_eq_true rfl) H3)))))
/-- SnapshotRings$History.<init> from 33 -/
theorem r_H_init_33 {v0 : Nat} {v1 : Int32} {s0 : Nat} {s1 : Int32} {s2 : Nat} {n1 : Nat} {h : sn_H} {c1 c2 : Nat} {Q : Option Value → sn_H → Prop}
    (k1 : hK h s0 = (4, 1, n1))
    (k2 : hK h s2 = (0, 1, 14))
    (B1 : vp_in s1 n1)
    (H2 : wpE 2 15 [some (.ref v0), some (.int (v1 + nI 1))] [] (setR h s0 s1.toNatClampNeg s2) (c1, c2) Q) :
    wpE 2 33 [some (.ref v0), some (.int v1)] [.ref s2, .int s1, .ref s0] h (c1, c2) Q :=
  vc_s (ct := fun pc => Nat.beq pc 10 || Nat.beq pc 15 || Nat.beq pc 29) 1000 false (Exists.intro 1 (Exists.intro n1 (And.intro k1 (And.intro k2 (And.intro B1 (And.intro (Nat.le_of_ble_eq_true rfl) H2))))))
/-- SnapshotRings$Graph.<init> from 0 -/
theorem r_G_init_0 {v0 : Nat} {h : sn_H} {Q : Option Value → sn_H → Prop}
    (H1 : wpE 3 9 [some (.ref v0)] [.ref (hN h), .ref v0] (allocH h (1, 0, 17)) (1, 17) Q) :
    wpE 3 0 [some (.ref v0)] [] h (0, 0) Q :=
  vc_s (ct := fun pc => Nat.beq pc 9 || Nat.beq pc 17 || Nat.beq pc 26 || Nat.beq pc 34 || Nat.beq pc 42 || Nat.beq pc 50 || Nat.beq pc 58 || Nat.beq pc 66) 1000 false (And.intro (Nat.le_of_ble_eq_true rfl) (Exists.intro 17 (And.intro rfl (And.intro (Nat.le_of_ble_eq_true rfl) (And.intro (Nat.le_of_ble_eq_true rfl) (And.intro (Nat.le_of_ble_eq_true rfl) H1))))))
/-- SnapshotRings$Graph.<init> from 9 -/
theorem r_G_init_9 {v0 : Nat} {s0 : Nat} {s1 : Nat} {h : sn_H} {Q : Option Value → sn_H → Prop}
    (k1 : hK h s0 = (0, 3, 10))
    (H1 : wpE 3 17 [some (.ref v0)] [.ref (hN (setR h s0 1 s1)), .ref v0] (allocH (setR h s0 1 s1) (1, 0, 17)) (2, 34) Q) :
    wpE 3 9 [some (.ref v0)] [.ref s1, .ref s0] h (1, 17) Q :=
  vc_s (ct := fun pc => Nat.beq pc 9 || Nat.beq pc 17 || Nat.beq pc 26 || Nat.beq pc 34 || Nat.beq pc 42 || Nat.beq pc 50 || Nat.beq pc 58 || Nat.beq pc 66) 1000 false (And.intro k1 (And.intro rfl (Exists.intro 17 (And.intro rfl (And.intro (Nat.le_of_ble_eq_true rfl) (And.intro (Nat.le_of_ble_eq_true rfl) (And.intro (Nat.le_of_ble_eq_true rfl) H1)))))))
/-- SnapshotRings$Graph.<init> from 17 -/
theorem r_G_init_17 {v0 : Nat} {s0 : Nat} {s1 : Nat} {h : sn_H} {Q : Option Value → sn_H → Prop}
    (k1 : hK h s0 = (0, 3, 10))
    (H1 : wpE 3 26 [some (.ref v0)] [.ref (hN (setR h s0 2 s1)), .ref v0] (allocH (setR h s0 2 s1) (1, 0, 289)) (3, 323) Q) :
    wpE 3 17 [some (.ref v0)] [.ref s1, .ref s0] h (2, 34) Q :=
  vc_s (ct := fun pc => Nat.beq pc 9 || Nat.beq pc 17 || Nat.beq pc 26 || Nat.beq pc 34 || Nat.beq pc 42 || Nat.beq pc 50 || Nat.beq pc 58 || Nat.beq pc 66) 1000 false (And.intro k1 (And.intro rfl (Exists.intro 289 (And.intro rfl (And.intro (Nat.le_of_ble_eq_true rfl) (And.intro (Nat.le_of_ble_eq_true rfl) (And.intro (Nat.le_of_ble_eq_true rfl) H1)))))))
/-- SnapshotRings$Graph.<init> from 26 -/
theorem r_G_init_26 {v0 : Nat} {s0 : Nat} {s1 : Nat} {h : sn_H} {Q : Option Value → sn_H → Prop}
    (k1 : hK h s0 = (0, 3, 10))
    (H1 : wpE 3 34 [some (.ref v0)] [.ref (hN (setR h s0 3 s1)), .ref v0] (allocH (setR h s0 3 s1) (1, 0, 17)) (4, 340) Q) :
    wpE 3 26 [some (.ref v0)] [.ref s1, .ref s0] h (3, 323) Q :=
  vc_s (ct := fun pc => Nat.beq pc 9 || Nat.beq pc 17 || Nat.beq pc 26 || Nat.beq pc 34 || Nat.beq pc 42 || Nat.beq pc 50 || Nat.beq pc 58 || Nat.beq pc 66) 1000 false (And.intro k1 (And.intro rfl (Exists.intro 17 (And.intro rfl (And.intro (Nat.le_of_ble_eq_true rfl) (And.intro (Nat.le_of_ble_eq_true rfl) (And.intro (Nat.le_of_ble_eq_true rfl) H1)))))))
/-- SnapshotRings$Graph.<init> from 34 -/
theorem r_G_init_34 {v0 : Nat} {s0 : Nat} {s1 : Nat} {h : sn_H} {Q : Option Value → sn_H → Prop}
    (k1 : hK h s0 = (0, 3, 10))
    (H1 : wpE 3 42 [some (.ref v0)] [.ref (hN (setR h s0 4 s1)), .ref v0] (allocH (setR h s0 4 s1) (1, 0, 17)) (5, 357) Q) :
    wpE 3 34 [some (.ref v0)] [.ref s1, .ref s0] h (4, 340) Q :=
  vc_s (ct := fun pc => Nat.beq pc 9 || Nat.beq pc 17 || Nat.beq pc 26 || Nat.beq pc 34 || Nat.beq pc 42 || Nat.beq pc 50 || Nat.beq pc 58 || Nat.beq pc 66) 1000 false (And.intro k1 (And.intro rfl (Exists.intro 17 (And.intro rfl (And.intro (Nat.le_of_ble_eq_true rfl) (And.intro (Nat.le_of_ble_eq_true rfl) (And.intro (Nat.le_of_ble_eq_true rfl) H1)))))))
/-- SnapshotRings$Graph.<init> from 42 -/
theorem r_G_init_42 {v0 : Nat} {s0 : Nat} {s1 : Nat} {h : sn_H} {Q : Option Value → sn_H → Prop}
    (k1 : hK h s0 = (0, 3, 10))
    (H1 : wpE 3 50 [some (.ref v0)] [.ref (hN (setR h s0 5 s1)), .ref v0] (allocH (setR h s0 5 s1) (1, 0, 17)) (6, 374) Q) :
    wpE 3 42 [some (.ref v0)] [.ref s1, .ref s0] h (5, 357) Q :=
  vc_s (ct := fun pc => Nat.beq pc 9 || Nat.beq pc 17 || Nat.beq pc 26 || Nat.beq pc 34 || Nat.beq pc 42 || Nat.beq pc 50 || Nat.beq pc 58 || Nat.beq pc 66) 1000 false (And.intro k1 (And.intro rfl (Exists.intro 17 (And.intro rfl (And.intro (Nat.le_of_ble_eq_true rfl) (And.intro (Nat.le_of_ble_eq_true rfl) (And.intro (Nat.le_of_ble_eq_true rfl) H1)))))))
/-- SnapshotRings$Graph.<init> from 50 -/
theorem r_G_init_50 {v0 : Nat} {s0 : Nat} {s1 : Nat} {h : sn_H} {Q : Option Value → sn_H → Prop}
    (k1 : hK h s0 = (0, 3, 10))
    (H1 : wpE 3 58 [some (.ref v0)] [.ref (hN (setR h s0 6 s1)), .ref v0] (allocH (setR h s0 6 s1) (1, 0, 17)) (7, 391) Q) :
    wpE 3 50 [some (.ref v0)] [.ref s1, .ref s0] h (6, 374) Q :=
  vc_s (ct := fun pc => Nat.beq pc 9 || Nat.beq pc 17 || Nat.beq pc 26 || Nat.beq pc 34 || Nat.beq pc 42 || Nat.beq pc 50 || Nat.beq pc 58 || Nat.beq pc 66) 1000 false (And.intro k1 (And.intro rfl (Exists.intro 17 (And.intro rfl (And.intro (Nat.le_of_ble_eq_true rfl) (And.intro (Nat.le_of_ble_eq_true rfl) (And.intro (Nat.le_of_ble_eq_true rfl) H1)))))))
/-- SnapshotRings$Graph.<init> from 58 -/
theorem r_G_init_58 {v0 : Nat} {s0 : Nat} {s1 : Nat} {h : sn_H} {Q : Option Value → sn_H → Prop}
    (k1 : hK h s0 = (0, 3, 10))
    (H1 : wpE 3 66 [none] [.ref (hN (setR h s0 7 s1)), .ref v0] (allocH (setR h s0 7 s1) (1, 0, 17)) (8, 408) Q) :
    wpE 3 58 [some (.ref v0)] [.ref s1, .ref s0] h (7, 391) Q :=
  vc_s (ct := fun pc => Nat.beq pc 9 || Nat.beq pc 17 || Nat.beq pc 26 || Nat.beq pc 34 || Nat.beq pc 42 || Nat.beq pc 50 || Nat.beq pc 58 || Nat.beq pc 66) 1000 false (And.intro k1 (And.intro rfl (Exists.intro 17 (And.intro rfl (And.intro (Nat.le_of_ble_eq_true rfl) (And.intro (Nat.le_of_ble_eq_true rfl) (And.intro (Nat.le_of_ble_eq_true rfl) (@wpE_w _ _ [none] _ _ _ _ _ (show LeL [none] [some (.ref v0)] from trivial) H1))))))))
/-- SnapshotRings$Graph.<init> from 66 -/
theorem r_G_init_66 {s0 : Nat} {s1 : Nat} {h : sn_H} {Q : Option Value → sn_H → Prop}
    (k1 : hK h s0 = (0, 3, 10))
    (H1 : Q none (setR h s0 8 s1)) :
    wpE 3 66 [none] [.ref s1, .ref s0] h (8, 408) Q :=
  vc_s (ct := fun pc => Nat.beq pc 9 || Nat.beq pc 17 || Nat.beq pc 26 || Nat.beq pc 34 || Nat.beq pc 42 || Nat.beq pc 50 || Nat.beq pc 58 || Nat.beq pc 66) 1000 false (And.intro k1 (And.intro rfl (And.intro rfl H1)))
/-- SnapshotRings$Schedule.<init> from 0 -/
theorem r_T_init_0 {v0 : Nat} {h : sn_H} {Q : Option Value → sn_H → Prop}
    (H1 : wpE 4 9 [none] [.ref (hN h), .ref v0] (allocH h (2, 0, 80)) (1, 80) Q) :
    wpE 4 0 [some (.ref v0)] [] h (0, 0) Q :=
  vc_s (ct := fun pc => Nat.beq pc 9) 1000 false (And.intro (Nat.le_of_ble_eq_true rfl) (Exists.intro 80 (And.intro rfl (And.intro (Nat.le_of_ble_eq_true rfl) (And.intro (Nat.le_of_ble_eq_true rfl) (And.intro (Nat.le_of_ble_eq_true rfl) (@wpE_w _ _ [none] _ _ _ _ _ (show LeL [none] [some (.ref v0)] from trivial) H1)))))))
/-- SnapshotRings$Schedule.<init> from 9 -/
theorem r_T_init_9 {s0 : Nat} {s1 : Nat} {h : sn_H} {Q : Option Value → sn_H → Prop}
    (k1 : hK h s0 = (0, 4, 2))
    (H1 : Q none (setR h s0 0 s1)) :
    wpE 4 9 [none] [.ref s1, .ref s0] h (1, 80) Q :=
  vc_s (ct := fun pc => Nat.beq pc 9) 1000 false (And.intro k1 (And.intro rfl (And.intro rfl H1)))
/-- SnapshotRings.<init> from 0 -/
theorem r_X_init_0 {v0 : Nat} {h : sn_H} {Q : Option Value → sn_H → Prop}
    (H1 : wpE 0 8 [some (.ref v0)] [.ref (hN h), .ref v0] (allocH h (0, 1, 14)) (1, 14) Q) :
    wpE 0 0 [some (.ref v0)] [] h (0, 0) Q :=
  vc_s (ct := fun pc => Nat.beq pc 8 || Nat.beq pc 19 || Nat.beq pc 30 || Nat.beq pc 41 || Nat.beq pc 52) 1000 false (And.intro (Nat.le_of_ble_eq_true rfl) (And.intro (Nat.le_of_ble_eq_true rfl) (And.intro (Nat.le_of_ble_eq_true rfl) H1)))
/-- SnapshotRings.<init> from 8 -/
theorem r_X_init_8 {v0 : Nat} {s0 : Nat} {s1 : Nat} {h : sn_H} {Q : Option Value → sn_H → Prop}
    (H1 : wpE 1 0 [some (.ref s1)] [] h (0, 0) (fun r hh => wpE 0 12 [some (.ref v0)] (r.toList ++ [.ref s1, .ref s0]) hh (11, 504) Q)) :
    wpE 0 8 [some (.ref v0)] [.ref s1, .ref s0] h (1, 14) Q :=
  vc_s (ct := fun pc => Nat.beq pc 8 || Nat.beq pc 19 || Nat.beq pc 30 || Nat.beq pc 41 || Nat.beq pc 52) 1000 false (And.intro rfl (And.intro (Nat.le_of_ble_eq_true rfl) (And.intro (Nat.le_of_ble_eq_true rfl) (And.intro (Nat.le_of_ble_eq_true rfl) (And.intro (Nat.le_of_ble_eq_true rfl) H1)))))
/-- SnapshotRings.<init> from 12 -/
theorem r_X_init_12 {v0 : Nat} {s0 : Nat} {s1 : Nat} {h : sn_H} {Q : Option Value → sn_H → Prop}
    (k1 : hK h s0 = (0, 0, 5))
    (H1 : wpE 0 19 [some (.ref v0)] [.ref (hN (setR h s0 0 s1)), .ref v0] (allocH (setR h s0 0 s1) (0, 1, 14)) (12, 518) Q) :
    wpE 0 12 [some (.ref v0)] [.ref s1, .ref s0] h (11, 504) Q :=
  vc_s (ct := fun pc => Nat.beq pc 8 || Nat.beq pc 19 || Nat.beq pc 30 || Nat.beq pc 41 || Nat.beq pc 52) 1000 false (And.intro k1 (And.intro rfl (And.intro (Nat.le_of_ble_eq_true rfl) (And.intro (Nat.le_of_ble_eq_true rfl) H1))))
/-- SnapshotRings.<init> from 19 -/
theorem r_X_init_19 {v0 : Nat} {s0 : Nat} {s1 : Nat} {h : sn_H} {Q : Option Value → sn_H → Prop}
    (H1 : wpE 1 0 [some (.ref s1)] [] h (0, 0) (fun r hh => wpE 0 23 [some (.ref v0)] (r.toList ++ [.ref s1, .ref s0]) hh (22, 1008) Q)) :
    wpE 0 19 [some (.ref v0)] [.ref s1, .ref s0] h (12, 518) Q :=
  vc_s (ct := fun pc => Nat.beq pc 8 || Nat.beq pc 19 || Nat.beq pc 30 || Nat.beq pc 41 || Nat.beq pc 52) 1000 false (And.intro rfl (And.intro (Nat.le_of_ble_eq_true rfl) (And.intro (Nat.le_of_ble_eq_true rfl) (And.intro (Nat.le_of_ble_eq_true rfl) (And.intro (Nat.le_of_ble_eq_true rfl) H1)))))
/-- SnapshotRings.<init> from 23 -/
theorem r_X_init_23 {v0 : Nat} {s0 : Nat} {s1 : Nat} {h : sn_H} {Q : Option Value → sn_H → Prop}
    (k1 : hK h s0 = (0, 0, 5))
    (H1 : wpE 0 30 [some (.ref v0)] [.ref (hN (setR h s0 1 s1)), .ref v0] (allocH (setR h s0 1 s1) (0, 2, 3)) (23, 1011) Q) :
    wpE 0 23 [some (.ref v0)] [.ref s1, .ref s0] h (22, 1008) Q :=
  vc_s (ct := fun pc => Nat.beq pc 8 || Nat.beq pc 19 || Nat.beq pc 30 || Nat.beq pc 41 || Nat.beq pc 52) 1000 false (And.intro k1 (And.intro rfl (And.intro (Nat.le_of_ble_eq_true rfl) (And.intro (Nat.le_of_ble_eq_true rfl) H1))))
/-- SnapshotRings.<init> from 30 -/
theorem r_X_init_30 {v0 : Nat} {s0 : Nat} {s1 : Nat} {h : sn_H} {Q : Option Value → sn_H → Prop}
    (H1 : wpE 2 0 [some (.ref s1), none] [] h (0, 0) (fun r hh => wpE 0 34 [some (.ref v0)] (r.toList ++ [.ref s1, .ref s0]) hh (90, 4041) Q)) :
    wpE 0 30 [some (.ref v0)] [.ref s1, .ref s0] h (23, 1011) Q :=
  vc_s (ct := fun pc => Nat.beq pc 8 || Nat.beq pc 19 || Nat.beq pc 30 || Nat.beq pc 41 || Nat.beq pc 52) 1000 false (And.intro rfl (And.intro (Nat.le_of_ble_eq_true rfl) (And.intro (Nat.le_of_ble_eq_true rfl) (And.intro (Nat.le_of_ble_eq_true rfl) (And.intro (Nat.le_of_ble_eq_true rfl) H1)))))
/-- SnapshotRings.<init> from 34 -/
theorem r_X_init_34 {v0 : Nat} {s0 : Nat} {s1 : Nat} {h : sn_H} {Q : Option Value → sn_H → Prop}
    (k1 : hK h s0 = (0, 0, 5))
    (H1 : wpE 0 41 [some (.ref v0)] [.ref (hN (setR h s0 2 s1)), .ref v0] (allocH (setR h s0 2 s1) (0, 3, 10)) (91, 4051) Q) :
    wpE 0 34 [some (.ref v0)] [.ref s1, .ref s0] h (90, 4041) Q :=
  vc_s (ct := fun pc => Nat.beq pc 8 || Nat.beq pc 19 || Nat.beq pc 30 || Nat.beq pc 41 || Nat.beq pc 52) 1000 false (And.intro k1 (And.intro rfl (And.intro (Nat.le_of_ble_eq_true rfl) (And.intro (Nat.le_of_ble_eq_true rfl) H1))))
/-- SnapshotRings.<init> from 41 -/
theorem r_X_init_41 {v0 : Nat} {s0 : Nat} {s1 : Nat} {h : sn_H} {Q : Option Value → sn_H → Prop}
    (H1 : wpE 3 0 [some (.ref s1)] [] h (0, 0) (fun r hh => wpE 0 45 [some (.ref v0)] (r.toList ++ [.ref s1, .ref s0]) hh (99, 4459) Q)) :
    wpE 0 41 [some (.ref v0)] [.ref s1, .ref s0] h (91, 4051) Q :=
  vc_s (ct := fun pc => Nat.beq pc 8 || Nat.beq pc 19 || Nat.beq pc 30 || Nat.beq pc 41 || Nat.beq pc 52) 1000 false (And.intro rfl (And.intro (Nat.le_of_ble_eq_true rfl) (And.intro (Nat.le_of_ble_eq_true rfl) (And.intro (Nat.le_of_ble_eq_true rfl) (And.intro (Nat.le_of_ble_eq_true rfl) H1)))))
/-- SnapshotRings.<init> from 45 -/
theorem r_X_init_45 {v0 : Nat} {s0 : Nat} {s1 : Nat} {h : sn_H} {Q : Option Value → sn_H → Prop}
    (k1 : hK h s0 = (0, 0, 5))
    (H1 : wpE 0 52 [none] [.ref (hN (setR h s0 3 s1)), .ref v0] (allocH (setR h s0 3 s1) (0, 4, 2)) (100, 4461) Q) :
    wpE 0 45 [some (.ref v0)] [.ref s1, .ref s0] h (99, 4459) Q :=
  vc_s (ct := fun pc => Nat.beq pc 8 || Nat.beq pc 19 || Nat.beq pc 30 || Nat.beq pc 41 || Nat.beq pc 52) 1000 false (And.intro k1 (And.intro rfl (And.intro (Nat.le_of_ble_eq_true rfl) (And.intro (Nat.le_of_ble_eq_true rfl) (@wpE_w _ _ [none] _ _ _ _ _ (show LeL [none] [some (.ref v0)] from trivial) H1)))))
/-- SnapshotRings.<init> from 52 -/
theorem r_X_init_52 {s0 : Nat} {s1 : Nat} {h : sn_H} {Q : Option Value → sn_H → Prop}
    (H1 : wpE 4 0 [some (.ref s1)] [] h (0, 0) (fun r hh => wpE 0 56 [none] (r.toList ++ [.ref s1, .ref s0]) hh (101, 4541) Q)) :
    wpE 0 52 [none] [.ref s1, .ref s0] h (100, 4461) Q :=
  vc_s (ct := fun pc => Nat.beq pc 8 || Nat.beq pc 19 || Nat.beq pc 30 || Nat.beq pc 41 || Nat.beq pc 52) 1000 false (And.intro rfl (And.intro (Nat.le_of_ble_eq_true rfl) (And.intro (Nat.le_of_ble_eq_true rfl) (And.intro (Nat.le_of_ble_eq_true rfl) (And.intro (Nat.le_of_ble_eq_true rfl) H1)))))
/-- SnapshotRings.<init> from 56 -/
theorem r_X_init_56 {s0 : Nat} {s1 : Nat} {h : sn_H} {Q : Option Value → sn_H → Prop}
    (k1 : hK h s0 = (0, 0, 5))
    (H1 : Q none (setR h s0 4 s1)) :
    wpE 0 56 [none] [.ref s1, .ref s0] h (101, 4541) Q :=
  vc_s (ct := fun pc => Nat.beq pc 8 || Nat.beq pc 19 || Nat.beq pc 30 || Nat.beq pc 41 || Nat.beq pc 52) 1000 false (And.intro k1 (And.intro rfl (And.intro rfl H1)))
