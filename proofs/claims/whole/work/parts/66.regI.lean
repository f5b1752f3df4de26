/-! ===== regions of the constructors and of the law, printed by wip/gen/mkregions.py ===== -/
/-- SnapshotRings$State.<init> from 0 -/
theorem r_S_init_0 {v0 : Nat} {h : sn_H} {Q : Option Value → sn_H → Prop}
    (H1 : wpE 1 8 [some (.ref v0)] [.ref (hN h), .ref v0] (allocH h (1, 0, 4)) (1, 4) Q) :
    wpE 1 0 [some (.ref v0)] [] h (0, 0) Q :=
  vc_s (ct := fun pc => Nat.beq pc 8 || Nat.beq pc 15 || Nat.beq pc 22 || Nat.beq pc 30 || Nat.beq pc 38 || Nat.beq pc 46 || Nat.beq pc 54 || Nat.beq pc 62 || Nat.beq pc 71 || Nat.beq pc 79) 1000 false (And.intro (Nat.le_of_ble_eq_true rfl) (Exists.intro 4 (And.intro rfl (And.intro (Nat.le_of_ble_eq_true rfl) (And.intro (Nat.le_of_ble_eq_true rfl) (And.intro (Nat.le_of_ble_eq_true rfl) H1))))))
/-- SnapshotRings$State.<init> from 8 -/
theorem r_S_init_8 {v0 : Nat} {s0 : Nat} {s1 : Nat} {h : sn_H} {Q : Option Value → sn_H → Prop}
    (k1 : hK h s0 = (0, 1, 14))
    (H1 : wpE 1 15 [some (.ref v0)] [.ref (hN (setR h s0 4 s1)), .ref v0] (allocH (setR h s0 4 s1) (1, 0, 3)) (2, 7) Q) :
    wpE 1 8 [some (.ref v0)] [.ref s1, .ref s0] h (1, 4) Q :=
  vc_s (ct := fun pc => Nat.beq pc 8 || Nat.beq pc 15 || Nat.beq pc 22 || Nat.beq pc 30 || Nat.beq pc 38 || Nat.beq pc 46 || Nat.beq pc 54 || Nat.beq pc 62 || Nat.beq pc 71 || Nat.beq pc 79) 1000 false (And.intro k1 (And.intro rfl (Exists.intro 3 (And.intro rfl (And.intro (Nat.le_of_ble_eq_true rfl) (And.intro (Nat.le_of_ble_eq_true rfl) (And.intro (Nat.le_of_ble_eq_true rfl) H1)))))))
/-- SnapshotRings$State.<init> from 15 -/
theorem r_S_init_15 {v0 : Nat} {s0 : Nat} {s1 : Nat} {h : sn_H} {Q : Option Value → sn_H → Prop}
    (k1 : hK h s0 = (0, 1, 14))
    (H1 : wpE 1 22 [some (.ref v0)] [.ref (hN (setR h s0 5 s1)), .ref v0] (allocH (setR h s0 5 s1) (1, 0, 3)) (3, 10) Q) :
    wpE 1 15 [some (.ref v0)] [.ref s1, .ref s0] h (2, 7) Q :=
  vc_s (ct := fun pc => Nat.beq pc 8 || Nat.beq pc 15 || Nat.beq pc 22 || Nat.beq pc 30 || Nat.beq pc 38 || Nat.beq pc 46 || Nat.beq pc 54 || Nat.beq pc 62 || Nat.beq pc 71 || Nat.beq pc 79) 1000 false (And.intro k1 (And.intro rfl (Exists.intro 3 (And.intro rfl (And.intro (Nat.le_of_ble_eq_true rfl) (And.intro (Nat.le_of_ble_eq_true rfl) (And.intro (Nat.le_of_ble_eq_true rfl) H1)))))))
/-- SnapshotRings$State.<init> from 22 -/
theorem r_S_init_22 {v0 : Nat} {s0 : Nat} {s1 : Nat} {h : sn_H} {Q : Option Value → sn_H → Prop}
    (k1 : hK h s0 = (0, 1, 14))
    (H1 : wpE 1 30 [some (.ref v0)] [.ref (hN (setR h s0 6 s1)), .ref v0] (allocH (setR h s0 6 s1) (1, 0, 12)) (4, 22) Q) :
    wpE 1 22 [some (.ref v0)] [.ref s1, .ref s0] h (3, 10) Q :=
  vc_s (ct := fun pc => Nat.beq pc 8 || Nat.beq pc 15 || Nat.beq pc 22 || Nat.beq pc 30 || Nat.beq pc 38 || Nat.beq pc 46 || Nat.beq pc 54 || Nat.beq pc 62 || Nat.beq pc 71 || Nat.beq pc 79) 1000 false (And.intro k1 (And.intro rfl (Exists.intro 12 (And.intro rfl (And.intro (Nat.le_of_ble_eq_true rfl) (And.intro (Nat.le_of_ble_eq_true rfl) (And.intro (Nat.le_of_ble_eq_true rfl) H1)))))))
/-- SnapshotRings$State.<init> from 30 -/
theorem r_S_init_30 {v0 : Nat} {s0 : Nat} {s1 : Nat} {h : sn_H} {Q : Option Value → sn_H → Prop}
    (k1 : hK h s0 = (0, 1, 14))
    (H1 : wpE 1 38 [some (.ref v0)] [.ref (hN (setR h s0 7 s1)), .ref v0] (allocH (setR h s0 7 s1) (1, 0, 12)) (5, 34) Q) :
    wpE 1 30 [some (.ref v0)] [.ref s1, .ref s0] h (4, 22) Q :=
  vc_s (ct := fun pc => Nat.beq pc 8 || Nat.beq pc 15 || Nat.beq pc 22 || Nat.beq pc 30 || Nat.beq pc 38 || Nat.beq pc 46 || Nat.beq pc 54 || Nat.beq pc 62 || Nat.beq pc 71 || Nat.beq pc 79) 1000 false (And.intro k1 (And.intro rfl (Exists.intro 12 (And.intro rfl (And.intro (Nat.le_of_ble_eq_true rfl) (And.intro (Nat.le_of_ble_eq_true rfl) (And.intro (Nat.le_of_ble_eq_true rfl) H1)))))))
/-- SnapshotRings$State.<init> from 38 -/
theorem r_S_init_38 {v0 : Nat} {s0 : Nat} {s1 : Nat} {h : sn_H} {Q : Option Value → sn_H → Prop}
    (k1 : hK h s0 = (0, 1, 14))
    (H1 : wpE 1 46 [some (.ref v0)] [.ref (hN (setR h s0 8 s1)), .ref v0] (allocH (setR h s0 8 s1) (1, 0, 24)) (6, 58) Q) :
    wpE 1 38 [some (.ref v0)] [.ref s1, .ref s0] h (5, 34) Q :=
  vc_s (ct := fun pc => Nat.beq pc 8 || Nat.beq pc 15 || Nat.beq pc 22 || Nat.beq pc 30 || Nat.beq pc 38 || Nat.beq pc 46 || Nat.beq pc 54 || Nat.beq pc 62 || Nat.beq pc 71 || Nat.beq pc 79) 1000 false (And.intro k1 (And.intro rfl (Exists.intro 24 (And.intro rfl (And.intro (Nat.le_of_ble_eq_true rfl) (And.intro (Nat.le_of_ble_eq_true rfl) (And.intro (Nat.le_of_ble_eq_true rfl) H1)))))))
/-- SnapshotRings$State.<init> from 46 -/
theorem r_S_init_46 {v0 : Nat} {s0 : Nat} {s1 : Nat} {h : sn_H} {Q : Option Value → sn_H → Prop}
    (k1 : hK h s0 = (0, 1, 14))
    (H1 : wpE 1 54 [some (.ref v0)] [.ref (hN (setR h s0 9 s1)), .ref v0] (allocH (setR h s0 9 s1) (1, 0, 24)) (7, 82) Q) :
    wpE 1 46 [some (.ref v0)] [.ref s1, .ref s0] h (6, 58) Q :=
  vc_s (ct := fun pc => Nat.beq pc 8 || Nat.beq pc 15 || Nat.beq pc 22 || Nat.beq pc 30 || Nat.beq pc 38 || Nat.beq pc 46 || Nat.beq pc 54 || Nat.beq pc 62 || Nat.beq pc 71 || Nat.beq pc 79) 1000 false (And.intro k1 (And.intro rfl (Exists.intro 24 (And.intro rfl (And.intro (Nat.le_of_ble_eq_true rfl) (And.intro (Nat.le_of_ble_eq_true rfl) (And.intro (Nat.le_of_ble_eq_true rfl) H1)))))))
/-- SnapshotRings$State.<init> from 54 -/
theorem r_S_init_54 {v0 : Nat} {s0 : Nat} {s1 : Nat} {h : sn_H} {Q : Option Value → sn_H → Prop}
    (k1 : hK h s0 = (0, 1, 14))
    (H1 : wpE 1 62 [some (.ref v0)] [.ref (hN (setR h s0 10 s1)), .ref v0] (allocH (setR h s0 10 s1) (1, 0, 24)) (8, 106) Q) :
    wpE 1 54 [some (.ref v0)] [.ref s1, .ref s0] h (7, 82) Q :=
  vc_s (ct := fun pc => Nat.beq pc 8 || Nat.beq pc 15 || Nat.beq pc 22 || Nat.beq pc 30 || Nat.beq pc 38 || Nat.beq pc 46 || Nat.beq pc 54 || Nat.beq pc 62 || Nat.beq pc 71 || Nat.beq pc 79) 1000 false (And.intro k1 (And.intro rfl (Exists.intro 24 (And.intro rfl (And.intro (Nat.le_of_ble_eq_true rfl) (And.intro (Nat.le_of_ble_eq_true rfl) (And.intro (Nat.le_of_ble_eq_true rfl) H1)))))))
/-- SnapshotRings$State.<init> from 62 -/
theorem r_S_init_62 {v0 : Nat} {s0 : Nat} {s1 : Nat} {h : sn_H} {Q : Option Value → sn_H → Prop}
    (k1 : hK h s0 = (0, 1, 14))
    (H1 : wpE 1 71 [some (.ref v0)] [.ref (hN (setR h s0 11 s1)), .ref v0] (allocH (setR h s0 11 s1) (1, 0, 288)) (9, 394) Q) :
    wpE 1 62 [some (.ref v0)] [.ref s1, .ref s0] h (8, 106) Q :=
  vc_s (ct := fun pc => Nat.beq pc 8 || Nat.beq pc 15 || Nat.beq pc 22 || Nat.beq pc 30 || Nat.beq pc 38 || Nat.beq pc 46 || Nat.beq pc 54 || Nat.beq pc 62 || Nat.beq pc 71 || Nat.beq pc 79) 1000 false (And.intro k1 (And.intro rfl (Exists.intro 288 (And.intro rfl (And.intro (Nat.le_of_ble_eq_true rfl) (And.intro (Nat.le_of_ble_eq_true rfl) (And.intro (Nat.le_of_ble_eq_true rfl) H1)))))))
/-- SnapshotRings$State.<init> from 71 -/
theorem r_S_init_71 {v0 : Nat} {s0 : Nat} {s1 : Nat} {h : sn_H} {Q : Option Value → sn_H → Prop}
    (k1 : hK h s0 = (0, 1, 14))
    (H1 : wpE 1 79 [none] [.ref (hN (setR h s0 12 s1)), .ref v0] (allocH (setR h s0 12 s1) (1, 0, 96)) (10, 490) Q) :
    wpE 1 71 [some (.ref v0)] [.ref s1, .ref s0] h (9, 394) Q :=
  vc_s (ct := fun pc => Nat.beq pc 8 || Nat.beq pc 15 || Nat.beq pc 22 || Nat.beq pc 30 || Nat.beq pc 38 || Nat.beq pc 46 || Nat.beq pc 54 || Nat.beq pc 62 || Nat.beq pc 71 || Nat.beq pc 79) 1000 false (And.intro k1 (And.intro rfl (Exists.intro 96 (And.intro rfl (And.intro (Nat.le_of_ble_eq_true rfl) (And.intro (Nat.le_of_ble_eq_true rfl) (And.intro (Nat.le_of_ble_eq_true rfl) (@wpE_w _ _ [none] _ _ _ _ _ (show LeL [none] [some (.ref v0)] from trivial) H1))))))))
/-- SnapshotRings$State.<init> from 79 -/
theorem r_S_init_79 {s0 : Nat} {s1 : Nat} {h : sn_H} {Q : Option Value → sn_H → Prop}
    (k1 : hK h s0 = (0, 1, 14))
    (H1 : Q none (setR h s0 13 s1)) :
    wpE 1 79 [none] [.ref s1, .ref s0] h (10, 490) Q :=
  vc_s (ct := fun pc => Nat.beq pc 8 || Nat.beq pc 15 || Nat.beq pc 22 || Nat.beq pc 30 || Nat.beq pc 38 || Nat.beq pc 46 || Nat.beq pc 54 || Nat.beq pc 62 || Nat.beq pc 71 || Nat.beq pc 79) 1000 false (And.intro k1 (And.intro rfl (And.intro rfl H1)))
/-- SnapshotRings$History.<init> from 0 -/
theorem r_H_init_0 {v0 : Nat} {h : sn_H} {Q : Option Value → sn_H → Prop}
    (H1 : wpE 2 10 [some (.ref v0), none] [.ref (hN h), .ref v0] (allocH h (4, 1, 6)) (1, 6) Q) :
    wpE 2 0 [some (.ref v0), none] [] h (0, 0) Q :=
  vc_s (ct := fun pc => Nat.beq pc 10 || Nat.beq pc 15 || Nat.beq pc 29) 1000 false (And.intro (Nat.le_of_ble_eq_true rfl) (Exists.intro 6 (And.intro rfl (And.intro (Nat.le_of_ble_eq_true rfl) (And.intro (Nat.le_of_ble_eq_true rfl) (And.intro (Nat.le_of_ble_eq_true rfl) H1))))))
/-- SnapshotRings$History.<init> from 10 -/
theorem r_H_init_10 {v0 : Nat} {s0 : Nat} {s1 : Nat} {h : sn_H} {Q : Option Value → sn_H → Prop}
    (k1 : hK h s0 = (0, 2, 3))
    (H1 : wpE 2 15 [some (.ref v0), some (.int (nI 0))] [] (setR h s0 0 s1) (1, 6) Q) :
    wpE 2 10 [some (.ref v0), none] [.ref s1, .ref s0] h (1, 6) Q :=
  vc_s (ct := fun pc => Nat.beq pc 10 || Nat.beq pc 15 || Nat.beq pc 29) 1000 false (And.intro k1 (And.intro rfl (And.intro (Nat.le_of_ble_eq_true rfl) H1)))
/-- SnapshotRings$History.<init> from 15 -/
theorem r_H_init_15 {v0 : Nat} {v1 : Int32} {q1 : Nat} {h : sn_H} {c1 c2 : Nat} {Q : Option Value → sn_H → Prop}
    (k1 : hK h v0 = (0, 2, 3))
    (k2 : hR h v0 0 = some q1)
    (H1 : nI 6 ≤ v1 → Q none h)
    (B2 : ¬ nI 6 ≤ v1 → c1 + 1 ≤ 67)
    (B3 : ¬ nI 6 ≤ v1 → c2 + 14 ≤ 3030)
    (H4 : ¬ nI 6 ≤ v1 → wpE 2 29 [some (.ref v0), some (.int v1)] [.ref (hN h), .int v1, .ref q1] (allocH h (0, 1, 14)) (c1 + 1, c2 + 14) Q) :
    wpE 2 15 [some (.ref v0), some (.int v1)] [] h (c1, c2) Q :=
  vc_s (ct := fun pc => Nat.beq pc 10 || Nat.beq pc 15 || Nat.beq pc 29) 1000 false (And.intro (fun c1 => (And.intro rfl (H1 c1))) (fun c2 => (And.intro k1 (Exists.intro q1 (And.intro k2 (And.intro (B2 c2) (And.intro (B3 c2) (H4 c2))))))))
/-- SnapshotRings$History.<init> from 29 -/
theorem r_H_init_29 {v0 : Nat} {v1 : Int32} {s0 : Nat} {s1 : Int32} {s2 : Nat} {h : sn_H} {c1 c2 : Nat} {Q : Option Value → sn_H → Prop}
    (B1 : c1 + 10 ≤ 67)
    (B2 : c2 + 490 ≤ 3030)
    (H3 : wpE 1 0 [some (.ref s2)] [] h (0, 0) (fun r hh => wpE 2 33 [some (.ref v0), some (.int v1)] (r.toList ++ [.ref s2, .int s1, .ref s0]) hh (c1 + 10, c2 + 490) Q)) :
    wpE 2 29 [some (.ref v0), some (.int v1)] [.ref s2, .int s1, .ref s0] h (c1, c2) Q :=
  vc_s (ct := fun pc => Nat.beq pc 10 || Nat.beq pc 15 || Nat.beq pc 29) 1000 false (And.intro rfl (And.intro (Nat.le_of_ble_eq_true rfl) (And.intro B1 (And.intro B2 (And.intro (Nat.le_of_ble_eq_true rfl) H3)))))
/-- SnapshotRings$History.<init> from 33 -/
theorem r_H_init_33 {v0 : Nat} {v1 : Int32} {s0 : Nat} {s1 : Int32} {s2 : Nat} {n1 : Nat} {h : sn_H} {c1 c2 : Nat} {Q : Option Value → sn_H → Prop}
    (k1 : hK h s0 = (4, 1, n1))
    (k2 : hK h s2 = (0, 1, 14))
    (B1 : vp_in s1 n1)
    (H2 : wpE 2 15 [some (.ref v0), some (.int (v1 + nI 1))] [] (setR h s0 s1.toNatClampNeg s2) (c1, c2) Q) :
    wpE 2 33 [some (.ref v0), some (.int v1)] [.ref s2, .int s1, .ref s0] h (c1, c2) Q :=
  vc_s (ct := fun pc => Nat.beq pc 10 || Nat.beq pc 15 || Nat.beq pc 29) 1000 false (Exists.intro 1 (Exists.intro n1 (And.intro k1 (And.intro k2 (And.intro B1 (And.intro (Nat.le_of_ble_eq_true rfl) H2))))))
/-- SnapshotRings$Graph.<init> from 0 -/
theorem r_G_init_0 {v0 : Nat} {h : sn_H} {Q : Option Value → sn_H → Prop}
    (H1 : wpE 3 9 [some (.ref v0)] [.ref (hN h), .ref v0] (allocH h (1, 0, 17)) (1, 17) Q) :
    wpE 3 0 [some (.ref v0)] [] h (0, 0) Q :=
  vc_s (ct := fun pc => Nat.beq pc 9 || Nat.beq pc 17 || Nat.beq pc 26 || Nat.beq pc 34 || Nat.beq pc 42 || Nat.beq pc 50 || Nat.beq pc 58 || Nat.beq pc 66) 1000 false (And.intro (Nat.le_of_ble_eq_true rfl) (Exists.intro 17 (And.intro rfl (And.intro (Nat.le_of_ble_eq_true rfl) (And.intro (Nat.le_of_ble_eq_true rfl) (And.intro (Nat.le_of_ble_eq_true rfl) H1))))))
/-- SnapshotRings$Graph.<init> from 9 -/
theorem r_G_init_9 {v0 : Nat} {s0 : Nat} {s1 : Nat} {h : sn_H} {Q : Option Value → sn_H → Prop}
    (k1 : hK h s0 = (0, 3, 10))
    (H1 : wpE 3 17 [some (.ref v0)] [.ref (hN (setR h s0 1 s1)), .ref v0] (allocH (setR h s0 1 s1) (1, 0, 17)) (2, 34) Q) :
    wpE 3 9 [some (.ref v0)] [.ref s1, .ref s0] h (1, 17) Q :=
  vc_s (ct := fun pc => Nat.beq pc 9 || Nat.beq pc 17 || Nat.beq pc 26 || Nat.beq pc 34 || Nat.beq pc 42 || Nat.beq pc 50 || Nat.beq pc 58 || Nat.beq pc 66) 1000 false (And.intro k1 (And.intro rfl (Exists.intro 17 (And.intro rfl (And.intro (Nat.le_of_ble_eq_true rfl) (And.intro (Nat.le_of_ble_eq_true rfl) (And.intro (Nat.le_of_ble_eq_true rfl) H1)))))))
/-- SnapshotRings$Graph.<init> from 17 -/
theorem r_G_init_17 {v0 : Nat} {s0 : Nat} {s1 : Nat} {h : sn_H} {Q : Option Value → sn_H → Prop}
    (k1 : hK h s0 = (0, 3, 10))
    (H1 : wpE 3 26 [some (.ref v0)] [.ref (hN (setR h s0 2 s1)), .ref v0] (allocH (setR h s0 2 s1) (1, 0, 289)) (3, 323) Q) :
    wpE 3 17 [some (.ref v0)] [.ref s1, .ref s0] h (2, 34) Q :=
  vc_s (ct := fun pc => Nat.beq pc 9 || Nat.beq pc 17 || Nat.beq pc 26 || Nat.beq pc 34 || Nat.beq pc 42 || Nat.beq pc 50 || Nat.beq pc 58 || Nat.beq pc 66) 1000 false (And.intro k1 (And.intro rfl (Exists.intro 289 (And.intro rfl (And.intro (Nat.le_of_ble_eq_true rfl) (And.intro (Nat.le_of_ble_eq_true rfl) (And.intro (Nat.le_of_ble_eq_true rfl) H1)))))))
/-- SnapshotRings$Graph.<init> from 26 -/
theorem r_G_init_26 {v0 : Nat} {s0 : Nat} {s1 : Nat} {h : sn_H} {Q : Option Value → sn_H → Prop}
    (k1 : hK h s0 = (0, 3, 10))
    (H1 : wpE 3 34 [some (.ref v0)] [.ref (hN (setR h s0 3 s1)), .ref v0] (allocH (setR h s0 3 s1) (1, 0, 17)) (4, 340) Q) :
    wpE 3 26 [some (.ref v0)] [.ref s1, .ref s0] h (3, 323) Q :=
  vc_s (ct := fun pc => Nat.beq pc 9 || Nat.beq pc 17 || Nat.beq pc 26 || Nat.beq pc 34 || Nat.beq pc 42 || Nat.beq pc 50 || Nat.beq pc 58 || Nat.beq pc 66) 1000 false (And.intro k1 (And.intro rfl (Exists.intro 17 (And.intro rfl (And.intro (Nat.le_of_ble_eq_true rfl) (And.intro (Nat.le_of_ble_eq_true rfl) (And.intro (Nat.le_of_ble_eq_true rfl) H1)))))))
/-- SnapshotRings$Graph.<init> from 34 -/
theorem r_G_init_34 {v0 : Nat} {s0 : Nat} {s1 : Nat} {h : sn_H} {Q : Option Value → sn_H → Prop}
    (k1 : hK h s0 = (0, 3, 10))
    (H1 : wpE 3 42 [some (.ref v0)] [.ref (hN (setR h s0 4 s1)), .ref v0] (allocH (setR h s0 4 s1) (1, 0, 17)) (5, 357) Q) :
    wpE 3 34 [some (.ref v0)] [.ref s1, .ref s0] h (4, 340) Q :=
  vc_s (ct := fun pc => Nat.beq pc 9 || Nat.beq pc 17 || Nat.beq pc 26 || Nat.beq pc 34 || Nat.beq pc 42 || Nat.beq pc 50 || Nat.beq pc 58 || Nat.beq pc 66) 1000 false (And.intro k1 (And.intro rfl (Exists.intro 17 (And.intro rfl (And.intro (Nat.le_of_ble_eq_true rfl) (And.intro (Nat.le_of_ble_eq_true rfl) (And.intro (Nat.le_of_ble_eq_true rfl) H1)))))))
/-- SnapshotRings$Graph.<init> from 42 -/
theorem r_G_init_42 {v0 : Nat} {s0 : Nat} {s1 : Nat} {h : sn_H} {Q : Option Value → sn_H → Prop}
    (k1 : hK h s0 = (0, 3, 10))
    (H1 : wpE 3 50 [some (.ref v0)] [.ref (hN (setR h s0 5 s1)), .ref v0] (allocH (setR h s0 5 s1) (1, 0, 17)) (6, 374) Q) :
    wpE 3 42 [some (.ref v0)] [.ref s1, .ref s0] h (5, 357) Q :=
  vc_s (ct := fun pc => Nat.beq pc 9 || Nat.beq pc 17 || Nat.beq pc 26 || Nat.beq pc 34 || Nat.beq pc 42 || Nat.beq pc 50 || Nat.beq pc 58 || Nat.beq pc 66) 1000 false (And.intro k1 (And.intro rfl (Exists.intro 17 (And.intro rfl (And.intro (Nat.le_of_ble_eq_true rfl) (And.intro (Nat.le_of_ble_eq_true rfl) (And.intro (Nat.le_of_ble_eq_true rfl) H1)))))))
/-- SnapshotRings$Graph.<init> from 50 -/
theorem r_G_init_50 {v0 : Nat} {s0 : Nat} {s1 : Nat} {h : sn_H} {Q : Option Value → sn_H → Prop}
    (k1 : hK h s0 = (0, 3, 10))
    (H1 : wpE 3 58 [some (.ref v0)] [.ref (hN (setR h s0 6 s1)), .ref v0] (allocH (setR h s0 6 s1) (1, 0, 17)) (7, 391) Q) :
    wpE 3 50 [some (.ref v0)] [.ref s1, .ref s0] h (6, 374) Q :=
  vc_s (ct := fun pc => Nat.beq pc 9 || Nat.beq pc 17 || Nat.beq pc 26 || Nat.beq pc 34 || Nat.beq pc 42 || Nat.beq pc 50 || Nat.beq pc 58 || Nat.beq pc 66) 1000 false (And.intro k1 (And.intro rfl (Exists.intro 17 (And.intro rfl (And.intro (Nat.le_of_ble_eq_true rfl) (And.intro (Nat.le_of_ble_eq_true rfl) (And.intro (Nat.le_of_ble_eq_true rfl) H1)))))))
/-- SnapshotRings$Graph.<init> from 58 -/
theorem r_G_init_58 {v0 : Nat} {s0 : Nat} {s1 : Nat} {h : sn_H} {Q : Option Value → sn_H → Prop}
    (k1 : hK h s0 = (0, 3, 10))
    (H1 : wpE 3 66 [none] [.ref (hN (setR h s0 7 s1)), .ref v0] (allocH (setR h s0 7 s1) (1, 0, 17)) (8, 408) Q) :
    wpE 3 58 [some (.ref v0)] [.ref s1, .ref s0] h (7, 391) Q :=
  vc_s (ct := fun pc => Nat.beq pc 9 || Nat.beq pc 17 || Nat.beq pc 26 || Nat.beq pc 34 || Nat.beq pc 42 || Nat.beq pc 50 || Nat.beq pc 58 || Nat.beq pc 66) 1000 false (And.intro k1 (And.intro rfl (Exists.intro 17 (And.intro rfl (And.intro (Nat.le_of_ble_eq_true rfl) (And.intro (Nat.le_of_ble_eq_true rfl) (And.intro (Nat.le_of_ble_eq_true rfl) (@wpE_w _ _ [none] _ _ _ _ _ (show LeL [none] [some (.ref v0)] from trivial) H1))))))))
/-- SnapshotRings$Graph.<init> from 66 -/
theorem r_G_init_66 {s0 : Nat} {s1 : Nat} {h : sn_H} {Q : Option Value → sn_H → Prop}
    (k1 : hK h s0 = (0, 3, 10))
    (H1 : Q none (setR h s0 8 s1)) :
    wpE 3 66 [none] [.ref s1, .ref s0] h (8, 408) Q :=
  vc_s (ct := fun pc => Nat.beq pc 9 || Nat.beq pc 17 || Nat.beq pc 26 || Nat.beq pc 34 || Nat.beq pc 42 || Nat.beq pc 50 || Nat.beq pc 58 || Nat.beq pc 66) 1000 false (And.intro k1 (And.intro rfl (And.intro rfl H1)))
/-- SnapshotRings$Schedule.<init> from 0 -/
theorem r_T_init_0 {v0 : Nat} {h : sn_H} {Q : Option Value → sn_H → Prop}
    (H1 : wpE 4 9 [none] [.ref (hN h), .ref v0] (allocH h (2, 0, 80)) (1, 80) Q) :
    wpE 4 0 [some (.ref v0)] [] h (0, 0) Q :=
  vc_s (ct := fun pc => Nat.beq pc 9) 1000 false (And.intro (Nat.le_of_ble_eq_true rfl) (Exists.intro 80 (And.intro rfl (And.intro (Nat.le_of_ble_eq_true rfl) (And.intro (Nat.le_of_ble_eq_true rfl) (And.intro (Nat.le_of_ble_eq_true rfl) (@wpE_w _ _ [none] _ _ _ _ _ (show LeL [none] [some (.ref v0)] from trivial) H1)))))))
/-- SnapshotRings$Schedule.<init> from 9 -/
theorem r_T_init_9 {s0 : Nat} {s1 : Nat} {h : sn_H} {Q : Option Value → sn_H → Prop}
    (k1 : hK h s0 = (0, 4, 2))
    (H1 : Q none (setR h s0 0 s1)) :
    wpE 4 9 [none] [.ref s1, .ref s0] h (1, 80) Q :=
  vc_s (ct := fun pc => Nat.beq pc 9) 1000 false (And.intro k1 (And.intro rfl (And.intro rfl H1)))
/-- SnapshotRings.<init> from 0 -/
theorem r_X_init_0 {v0 : Nat} {h : sn_H} {Q : Option Value → sn_H → Prop}
    (H1 : wpE 0 8 [some (.ref v0)] [.ref (hN h), .ref v0] (allocH h (0, 1, 14)) (1, 14) Q) :
    wpE 0 0 [some (.ref v0)] [] h (0, 0) Q :=
  vc_s (ct := fun pc => Nat.beq pc 8 || Nat.beq pc 19 || Nat.beq pc 30 || Nat.beq pc 41 || Nat.beq pc 52) 1000 false (And.intro (Nat.le_of_ble_eq_true rfl) (And.intro (Nat.le_of_ble_eq_true rfl) (And.intro (Nat.le_of_ble_eq_true rfl) H1)))
/-- SnapshotRings.<init> from 8 -/
theorem r_X_init_8 {v0 : Nat} {s0 : Nat} {s1 : Nat} {h : sn_H} {Q : Option Value → sn_H → Prop}
    (H1 : wpE 1 0 [some (.ref s1)] [] h (0, 0) (fun r hh => wpE 0 12 [some (.ref v0)] (r.toList ++ [.ref s1, .ref s0]) hh (11, 504) Q)) :
    wpE 0 8 [some (.ref v0)] [.ref s1, .ref s0] h (1, 14) Q :=
  vc_s (ct := fun pc => Nat.beq pc 8 || Nat.beq pc 19 || Nat.beq pc 30 || Nat.beq pc 41 || Nat.beq pc 52) 1000 false (And.intro rfl (And.intro (Nat.le_of_ble_eq_true rfl) (And.intro (Nat.le_of_ble_eq_true rfl) (And.intro (Nat.le_of_ble_eq_true rfl) (And.intro (Nat.le_of_ble_eq_true rfl) H1)))))
/-- SnapshotRings.<init> from 12 -/
theorem r_X_init_12 {v0 : Nat} {s0 : Nat} {s1 : Nat} {h : sn_H} {Q : Option Value → sn_H → Prop}
    (k1 : hK h s0 = (0, 0, 5))
    (H1 : wpE 0 19 [some (.ref v0)] [.ref (hN (setR h s0 0 s1)), .ref v0] (allocH (setR h s0 0 s1) (0, 1, 14)) (12, 518) Q) :
    wpE 0 12 [some (.ref v0)] [.ref s1, .ref s0] h (11, 504) Q :=
  vc_s (ct := fun pc => Nat.beq pc 8 || Nat.beq pc 19 || Nat.beq pc 30 || Nat.beq pc 41 || Nat.beq pc 52) 1000 false (And.intro k1 (And.intro rfl (And.intro (Nat.le_of_ble_eq_true rfl) (And.intro (Nat.le_of_ble_eq_true rfl) H1))))
/-- SnapshotRings.<init> from 19 -/
theorem r_X_init_19 {v0 : Nat} {s0 : Nat} {s1 : Nat} {h : sn_H} {Q : Option Value → sn_H → Prop}
    (H1 : wpE 1 0 [some (.ref s1)] [] h (0, 0) (fun r hh => wpE 0 23 [some (.ref v0)] (r.toList ++ [.ref s1, .ref s0]) hh (22, 1008) Q)) :
    wpE 0 19 [some (.ref v0)] [.ref s1, .ref s0] h (12, 518) Q :=
  vc_s (ct := fun pc => Nat.beq pc 8 || Nat.beq pc 19 || Nat.beq pc 30 || Nat.beq pc 41 || Nat.beq pc 52) 1000 false (And.intro rfl (And.intro (Nat.le_of_ble_eq_true rfl) (And.intro (Nat.le_of_ble_eq_true rfl) (And.intro (Nat.le_of_ble_eq_true rfl) (And.intro (Nat.le_of_ble_eq_true rfl) H1)))))
/-- SnapshotRings.<init> from 23 -/
theorem r_X_init_23 {v0 : Nat} {s0 : Nat} {s1 : Nat} {h : sn_H} {Q : Option Value → sn_H → Prop}
    (k1 : hK h s0 = (0, 0, 5))
    (H1 : wpE 0 30 [some (.ref v0)] [.ref (hN (setR h s0 1 s1)), .ref v0] (allocH (setR h s0 1 s1) (0, 2, 3)) (23, 1011) Q) :
    wpE 0 23 [some (.ref v0)] [.ref s1, .ref s0] h (22, 1008) Q :=
  vc_s (ct := fun pc => Nat.beq pc 8 || Nat.beq pc 19 || Nat.beq pc 30 || Nat.beq pc 41 || Nat.beq pc 52) 1000 false (And.intro k1 (And.intro rfl (And.intro (Nat.le_of_ble_eq_true rfl) (And.intro (Nat.le_of_ble_eq_true rfl) H1))))
/-- SnapshotRings.<init> from 30 -/
theorem r_X_init_30 {v0 : Nat} {s0 : Nat} {s1 : Nat} {h : sn_H} {Q : Option Value → sn_H → Prop}
    (H1 : wpE 2 0 [some (.ref s1), none] [] h (0, 0) (fun r hh => wpE 0 34 [some (.ref v0)] (r.toList ++ [.ref s1, .ref s0]) hh (90, 4041) Q)) :
    wpE 0 30 [some (.ref v0)] [.ref s1, .ref s0] h (23, 1011) Q :=
  vc_s (ct := fun pc => Nat.beq pc 8 || Nat.beq pc 19 || Nat.beq pc 30 || Nat.beq pc 41 || Nat.beq pc 52) 1000 false (And.intro rfl (And.intro (Nat.le_of_ble_eq_true rfl) (And.intro (Nat.le_of_ble_eq_true rfl) (And.intro (Nat.le_of_ble_eq_true rfl) (And.intro (Nat.le_of_ble_eq_true rfl) H1)))))
/-- SnapshotRings.<init> from 34 -/
theorem r_X_init_34 {v0 : Nat} {s0 : Nat} {s1 : Nat} {h : sn_H} {Q : Option Value → sn_H → Prop}
    (k1 : hK h s0 = (0, 0, 5))
    (H1 : wpE 0 41 [some (.ref v0)] [.ref (hN (setR h s0 2 s1)), .ref v0] (allocH (setR h s0 2 s1) (0, 3, 10)) (91, 4051) Q) :
    wpE 0 34 [some (.ref v0)] [.ref s1, .ref s0] h (90, 4041) Q :=
  vc_s (ct := fun pc => Nat.beq pc 8 || Nat.beq pc 19 || Nat.beq pc 30 || Nat.beq pc 41 || Nat.beq pc 52) 1000 false (And.intro k1 (And.intro rfl (And.intro (Nat.le_of_ble_eq_true rfl) (And.intro (Nat.le_of_ble_eq_true rfl) H1))))
/-- SnapshotRings.<init> from 41 -/
theorem r_X_init_41 {v0 : Nat} {s0 : Nat} {s1 : Nat} {h : sn_H} {Q : Option Value → sn_H → Prop}
    (H1 : wpE 3 0 [some (.ref s1)] [] h (0, 0) (fun r hh => wpE 0 45 [some (.ref v0)] (r.toList ++ [.ref s1, .ref s0]) hh (99, 4459) Q)) :
    wpE 0 41 [some (.ref v0)] [.ref s1, .ref s0] h (91, 4051) Q :=
  vc_s (ct := fun pc => Nat.beq pc 8 || Nat.beq pc 19 || Nat.beq pc 30 || Nat.beq pc 41 || Nat.beq pc 52) 1000 false (And.intro rfl (And.intro (Nat.le_of_ble_eq_true rfl) (And.intro (Nat.le_of_ble_eq_true rfl) (And.intro (Nat.le_of_ble_eq_true rfl) (And.intro (Nat.le_of_ble_eq_true rfl) H1)))))
/-- SnapshotRings.<init> from 45 -/
theorem r_X_init_45 {v0 : Nat} {s0 : Nat} {s1 : Nat} {h : sn_H} {Q : Option Value → sn_H → Prop}
    (k1 : hK h s0 = (0, 0, 5))
    (H1 : wpE 0 52 [none] [.ref (hN (setR h s0 3 s1)), .ref v0] (allocH (setR h s0 3 s1) (0, 4, 2)) (100, 4461) Q) :
    wpE 0 45 [some (.ref v0)] [.ref s1, .ref s0] h (99, 4459) Q :=
  vc_s (ct := fun pc => Nat.beq pc 8 || Nat.beq pc 19 || Nat.beq pc 30 || Nat.beq pc 41 || Nat.beq pc 52) 1000 false (And.intro k1 (And.intro rfl (And.intro (Nat.le_of_ble_eq_true rfl) (And.intro (Nat.le_of_ble_eq_true rfl) (@wpE_w _ _ [none] _ _ _ _ _ (show LeL [none] [some (.ref v0)] from trivial) H1)))))
/-- SnapshotRings.<init> from 52 -/
theorem r_X_init_52 {s0 : Nat} {s1 : Nat} {h : sn_H} {Q : Option Value → sn_H → Prop}
    (H1 : wpE 4 0 [some (.ref s1)] [] h (0, 0) (fun r hh => wpE 0 56 [none] (r.toList ++ [.ref s1, .ref s0]) hh (101, 4541) Q)) :
    wpE 0 52 [none] [.ref s1, .ref s0] h (100, 4461) Q :=
  vc_s (ct := fun pc => Nat.beq pc 8 || Nat.beq pc 19 || Nat.beq pc 30 || Nat.beq pc 41 || Nat.beq pc 52) 1000 false (And.intro rfl (And.intro (Nat.le_of_ble_eq_true rfl) (And.intro (Nat.le_of_ble_eq_true rfl) (And.intro (Nat.le_of_ble_eq_true rfl) (And.intro (Nat.le_of_ble_eq_true rfl) H1)))))
/-- SnapshotRings.<init> from 56 -/
theorem r_X_init_56 {s0 : Nat} {s1 : Nat} {h : sn_H} {Q : Option Value → sn_H → Prop}
    (k1 : hK h s0 = (0, 0, 5))
    (H1 : Q none (setR h s0 4 s1)) :
    wpE 0 56 [none] [.ref s1, .ref s0] h (101, 4541) Q :=
  vc_s (ct := fun pc => Nat.beq pc 8 || Nat.beq pc 19 || Nat.beq pc 30 || Nat.beq pc 41 || Nat.beq pc 52) 1000 false (And.intro k1 (And.intro rfl (And.intro rfl H1)))
/-- SnapshotRingsModel.<init> from 0 -/
theorem r_M_init_0 {v0 : Nat} {h : sn_H} {Q : Option Value → sn_H → Prop}
    (H1 : wpE 93 10 [some (.ref v0)] [.ref (hN h), .ref v0] (allocH h (1, 0, 596)) (1, 596) Q) :
    wpE 93 0 [some (.ref v0)] [] h (0, 0) Q :=
  vc_s (ct := fun pc => Nat.beq pc 10 || Nat.beq pc 19 || Nat.beq pc 28 || Nat.beq pc 36 || Nat.beq pc 44 || Nat.beq pc 52 || Nat.beq pc 60) 1000 false (And.intro (Nat.le_of_ble_eq_true rfl) (Exists.intro 596 (And.intro rfl (And.intro (Nat.le_of_ble_eq_true rfl) (And.intro (Nat.le_of_ble_eq_true rfl) (And.intro (Nat.le_of_ble_eq_true rfl) H1))))))
/-- SnapshotRingsModel.<init> from 10 -/
theorem r_M_init_10 {v0 : Nat} {s0 : Nat} {s1 : Nat} {h : sn_H} {Q : Option Value → sn_H → Prop}
    (k1 : hK h s0 = (0, 5, 16))
    (H1 : wpE 93 19 [some (.ref v0)] [.ref (hN (setR h s0 0 s1)), .ref v0] (allocH (setR h s0 0 s1) (1, 0, 596)) (2, 1192) Q) :
    wpE 93 10 [some (.ref v0)] [.ref s1, .ref s0] h (1, 596) Q :=
  vc_s (ct := fun pc => Nat.beq pc 10 || Nat.beq pc 19 || Nat.beq pc 28 || Nat.beq pc 36 || Nat.beq pc 44 || Nat.beq pc 52 || Nat.beq pc 60) 1000 false (And.intro k1 (And.intro rfl (Exists.intro 596 (And.intro rfl (And.intro (Nat.le_of_ble_eq_true rfl) (And.intro (Nat.le_of_ble_eq_true rfl) (And.intro (Nat.le_of_ble_eq_true rfl) H1)))))))
/-- SnapshotRingsModel.<init> from 19 -/
theorem r_M_init_19 {v0 : Nat} {s0 : Nat} {s1 : Nat} {h : sn_H} {Q : Option Value → sn_H → Prop}
    (k1 : hK h s0 = (0, 5, 16))
    (H1 : wpE 93 28 [some (.ref v0)] [.ref (hN (setR h s0 1 s1)), .ref v0] (allocH (setR h s0 1 s1) (1, 0, 3576)) (3, 4768) Q) :
    wpE 93 19 [some (.ref v0)] [.ref s1, .ref s0] h (2, 1192) Q :=
  vc_s (ct := fun pc => Nat.beq pc 10 || Nat.beq pc 19 || Nat.beq pc 28 || Nat.beq pc 36 || Nat.beq pc 44 || Nat.beq pc 52 || Nat.beq pc 60) 1000 false (And.intro k1 (And.intro rfl (Exists.intro 3576 (And.intro rfl (And.intro (Nat.le_of_ble_eq_true rfl) (And.intro (Nat.le_of_ble_eq_true rfl) (And.intro (Nat.le_of_ble_eq_true rfl) H1)))))))
/-- SnapshotRingsModel.<init> from 28 -/
theorem r_M_init_28 {v0 : Nat} {s0 : Nat} {s1 : Nat} {h : sn_H} {Q : Option Value → sn_H → Prop}
    (k1 : hK h s0 = (0, 5, 16))
    (H1 : wpE 93 36 [some (.ref v0)] [.ref (hN (setR h s0 2 s1)), .ref v0] (allocH (setR h s0 2 s1) (1, 0, 80)) (4, 4848) Q) :
    wpE 93 28 [some (.ref v0)] [.ref s1, .ref s0] h (3, 4768) Q :=
  vc_s (ct := fun pc => Nat.beq pc 10 || Nat.beq pc 19 || Nat.beq pc 28 || Nat.beq pc 36 || Nat.beq pc 44 || Nat.beq pc 52 || Nat.beq pc 60) 1000 false (And.intro k1 (And.intro rfl (Exists.intro 80 (And.intro rfl (And.intro (Nat.le_of_ble_eq_true rfl) (And.intro (Nat.le_of_ble_eq_true rfl) (And.intro (Nat.le_of_ble_eq_true rfl) H1)))))))
/-- SnapshotRingsModel.<init> from 36 -/
theorem r_M_init_36 {v0 : Nat} {s0 : Nat} {s1 : Nat} {h : sn_H} {Q : Option Value → sn_H → Prop}
    (k1 : hK h s0 = (0, 5, 16))
    (H1 : wpE 93 44 [some (.ref v0)] [.ref (hN (setR h s0 4 s1)), .ref v0] (allocH (setR h s0 4 s1) (1, 0, 17)) (5, 4865) Q) :
    wpE 93 36 [some (.ref v0)] [.ref s1, .ref s0] h (4, 4848) Q :=
  vc_s (ct := fun pc => Nat.beq pc 10 || Nat.beq pc 19 || Nat.beq pc 28 || Nat.beq pc 36 || Nat.beq pc 44 || Nat.beq pc 52 || Nat.beq pc 60) 1000 false (And.intro k1 (And.intro rfl (Exists.intro 17 (And.intro rfl (And.intro (Nat.le_of_ble_eq_true rfl) (And.intro (Nat.le_of_ble_eq_true rfl) (And.intro (Nat.le_of_ble_eq_true rfl) H1)))))))
/-- SnapshotRingsModel.<init> from 44 -/
theorem r_M_init_44 {v0 : Nat} {s0 : Nat} {s1 : Nat} {h : sn_H} {Q : Option Value → sn_H → Prop}
    (k1 : hK h s0 = (0, 5, 16))
    (H1 : wpE 93 52 [some (.ref v0)] [.ref (hN (setR h s0 7 s1)), .ref v0] (allocH (setR h s0 7 s1) (1, 0, 17)) (6, 4882) Q) :
    wpE 93 44 [some (.ref v0)] [.ref s1, .ref s0] h (5, 4865) Q :=
  vc_s (ct := fun pc => Nat.beq pc 10 || Nat.beq pc 19 || Nat.beq pc 28 || Nat.beq pc 36 || Nat.beq pc 44 || Nat.beq pc 52 || Nat.beq pc 60) 1000 false (And.intro k1 (And.intro rfl (Exists.intro 17 (And.intro rfl (And.intro (Nat.le_of_ble_eq_true rfl) (And.intro (Nat.le_of_ble_eq_true rfl) (And.intro (Nat.le_of_ble_eq_true rfl) H1)))))))
/-- SnapshotRingsModel.<init> from 52 -/
theorem r_M_init_52 {v0 : Nat} {s0 : Nat} {s1 : Nat} {h : sn_H} {Q : Option Value → sn_H → Prop}
    (k1 : hK h s0 = (0, 5, 16))
    (H1 : wpE 93 60 [none] [.ref (hN (setR h s0 8 s1)), .ref v0] (allocH (setR h s0 8 s1) (1, 0, 16)) (7, 4898) Q) :
    wpE 93 52 [some (.ref v0)] [.ref s1, .ref s0] h (6, 4882) Q :=
  vc_s (ct := fun pc => Nat.beq pc 10 || Nat.beq pc 19 || Nat.beq pc 28 || Nat.beq pc 36 || Nat.beq pc 44 || Nat.beq pc 52 || Nat.beq pc 60) 1000 false (And.intro k1 (And.intro rfl (Exists.intro 16 (And.intro rfl (And.intro (Nat.le_of_ble_eq_true rfl) (And.intro (Nat.le_of_ble_eq_true rfl) (And.intro (Nat.le_of_ble_eq_true rfl) (@wpE_w _ _ [none] _ _ _ _ _ (show LeL [none] [some (.ref v0)] from trivial) H1))))))))
/-- SnapshotRingsModel.<init> from 60 -/
theorem r_M_init_60 {s0 : Nat} {s1 : Nat} {h : sn_H} {Q : Option Value → sn_H → Prop}
    (k1 : hK h s0 = (0, 5, 16))
    (H1 : Q none (setR h s0 9 s1)) :
    wpE 93 60 [none] [.ref s1, .ref s0] h (7, 4898) Q :=
  vc_s (ct := fun pc => Nat.beq pc 10 || Nat.beq pc 19 || Nat.beq pc 28 || Nat.beq pc 36 || Nat.beq pc 44 || Nat.beq pc 52 || Nat.beq pc 60) 1000 false (And.intro k1 (And.intro rfl (And.intro rfl H1)))
/-- SnapshotRingsLaw.law from 0 -/
theorem r_L_law_0 {v0 : Nat} {h : sn_H} {Q : Option Value → sn_H → Prop}
    (H1 : wpE 174 3 [some (.ref v0), none, none, none] [.ref (hN h)] (allocH h (0, 0, 5)) (1, 5) Q) :
    wpE 174 0 [some (.ref v0), none, none, none] [] h (0, 0) Q :=
  vc_s (ct := fun pc => Nat.beq pc 3 || Nat.beq pc 11 || Nat.beq pc 18 || Nat.beq pc 156 || Nat.beq pc 179 || Nat.beq pc 222 || Nat.beq pc 245 || Nat.beq pc 278 || Nat.beq pc 321 || Nat.beq pc 344 || Nat.beq pc 367 || Nat.beq pc 390 || Nat.beq pc 413 || Nat.beq pc 436 || Nat.beq pc 469 || Nat.beq pc 502 || Nat.beq pc 535 || Nat.beq pc 568 || Nat.beq pc 581 || Nat.beq pc 604 || Nat.beq pc 617 || Nat.beq pc 640 || Nat.beq pc 673 || Nat.beq pc 686 || Nat.beq pc 709 || Nat.beq pc 732 || Nat.beq pc 745 || Nat.beq pc 758 || Nat.beq pc 771 || Nat.beq pc 784 || Nat.beq pc 798) 1000 false (And.intro (Nat.le_of_ble_eq_true rfl) (And.intro (Nat.le_of_ble_eq_true rfl) H1))
/-- SnapshotRingsLaw.law from 3 -/
theorem r_L_law_3 {v0 : Nat} {s0 : Nat} {h : sn_H} {Q : Option Value → sn_H → Prop}
    (H1 : wpE 0 0 [some (.ref s0)] [] h (0, 0) (fun r hh => wpE 174 7 [some (.ref v0), none, none, none] (r.toList ++ [.ref s0]) hh (102, 4546) Q)) :
    wpE 174 3 [some (.ref v0), none, none, none] [.ref s0] h (1, 5) Q :=
  vc_s (ct := fun pc => Nat.beq pc 3 || Nat.beq pc 11 || Nat.beq pc 18 || Nat.beq pc 156 || Nat.beq pc 179 || Nat.beq pc 222 || Nat.beq pc 245 || Nat.beq pc 278 || Nat.beq pc 321 || Nat.beq pc 344 || Nat.beq pc 367 || Nat.beq pc 390 || Nat.beq pc 413 || Nat.beq pc 436 || Nat.beq pc 469 || Nat.beq pc 502 || Nat.beq pc 535 || Nat.beq pc 568 || Nat.beq pc 581 || Nat.beq pc 604 || Nat.beq pc 617 || Nat.beq pc 640 || Nat.beq pc 673 || Nat.beq pc 686 || Nat.beq pc 709 || Nat.beq pc 732 || Nat.beq pc 745 || Nat.beq pc 758 || Nat.beq pc 771 || Nat.beq pc 784 || Nat.beq pc 798) 1000 false (And.intro rfl (And.intro (Nat.le_of_ble_eq_true rfl) (And.intro (Nat.le_of_ble_eq_true rfl) (And.intro (Nat.le_of_ble_eq_true rfl) (And.intro (Nat.le_of_ble_eq_true rfl) H1)))))
/-- SnapshotRingsLaw.law from 7 -/
theorem r_L_law_7 {v0 : Nat} {s0 : Nat} {h : sn_H} {Q : Option Value → sn_H → Prop}
    (H1 : wpE 174 11 [some (.ref v0), some (.ref s0), none, none] [.ref (hN h)] (allocH h (0, 5, 16)) (103, 4562) Q) :
    wpE 174 7 [some (.ref v0), none, none, none] [.ref s0] h (102, 4546) Q :=
  vc_s (ct := fun pc => Nat.beq pc 3 || Nat.beq pc 11 || Nat.beq pc 18 || Nat.beq pc 156 || Nat.beq pc 179 || Nat.beq pc 222 || Nat.beq pc 245 || Nat.beq pc 278 || Nat.beq pc 321 || Nat.beq pc 344 || Nat.beq pc 367 || Nat.beq pc 390 || Nat.beq pc 413 || Nat.beq pc 436 || Nat.beq pc 469 || Nat.beq pc 502 || Nat.beq pc 535 || Nat.beq pc 568 || Nat.beq pc 581 || Nat.beq pc 604 || Nat.beq pc 617 || Nat.beq pc 640 || Nat.beq pc 673 || Nat.beq pc 686 || Nat.beq pc 709 || Nat.beq pc 732 || Nat.beq pc 745 || Nat.beq pc 758 || Nat.beq pc 771 || Nat.beq pc 784 || Nat.beq pc 798) 1000 false (And.intro (Nat.le_of_ble_eq_true rfl) (And.intro (Nat.le_of_ble_eq_true rfl) (And.intro (Nat.le_of_ble_eq_true rfl) H1)))
/-- SnapshotRingsLaw.law from 11 -/
theorem r_L_law_11 {v0 : Nat} {v1 : Nat} {s0 : Nat} {h : sn_H} {Q : Option Value → sn_H → Prop}
    (H1 : wpE 93 0 [some (.ref s0)] [] h (0, 0) (fun r hh => wpE 174 15 [some (.ref v0), some (.ref v1), none, none] (r.toList ++ [.ref s0]) hh (110, 9460) Q)) :
    wpE 174 11 [some (.ref v0), some (.ref v1), none, none] [.ref s0] h (103, 4562) Q :=
  vc_s (ct := fun pc => Nat.beq pc 3 || Nat.beq pc 11 || Nat.beq pc 18 || Nat.beq pc 156 || Nat.beq pc 179 || Nat.beq pc 222 || Nat.beq pc 245 || Nat.beq pc 278 || Nat.beq pc 321 || Nat.beq pc 344 || Nat.beq pc 367 || Nat.beq pc 390 || Nat.beq pc 413 || Nat.beq pc 436 || Nat.beq pc 469 || Nat.beq pc 502 || Nat.beq pc 535 || Nat.beq pc 568 || Nat.beq pc 581 || Nat.beq pc 604 || Nat.beq pc 617 || Nat.beq pc 640 || Nat.beq pc 673 || Nat.beq pc 686 || Nat.beq pc 709 || Nat.beq pc 732 || Nat.beq pc 745 || Nat.beq pc 758 || Nat.beq pc 771 || Nat.beq pc 784 || Nat.beq pc 798) 1000 false (And.intro rfl (And.intro (Nat.le_of_ble_eq_true rfl) (And.intro (Nat.le_of_ble_eq_true rfl) (And.intro (Nat.le_of_ble_eq_true rfl) (And.intro (Nat.le_of_ble_eq_true rfl) H1)))))
/-- SnapshotRingsLaw.law from 15 -/
theorem r_L_law_15 {v0 : Nat} {v1 : Nat} {s0 : Nat} {h : sn_H} {Q : Option Value → sn_H → Prop}
    (H1 : wpE 174 18 [some (.ref v0), some (.ref v1), some (.ref s0), some (.int (nI 0))] [] h (110, 9460) Q) :
    wpE 174 15 [some (.ref v0), some (.ref v1), none, none] [.ref s0] h (110, 9460) Q :=
  vc_s (ct := fun pc => Nat.beq pc 3 || Nat.beq pc 11 || Nat.beq pc 18 || Nat.beq pc 156 || Nat.beq pc 179 || Nat.beq pc 222 || Nat.beq pc 245 || Nat.beq pc 278 || Nat.beq pc 321 || Nat.beq pc 344 || Nat.beq pc 367 || Nat.beq pc 390 || Nat.beq pc 413 || Nat.beq pc 436 || Nat.beq pc 469 || Nat.beq pc 502 || Nat.beq pc 535 || Nat.beq pc 568 || Nat.beq pc 581 || Nat.beq pc 604 || Nat.beq pc 617 || Nat.beq pc 640 || Nat.beq pc 673 || Nat.beq pc 686 || Nat.beq pc 709 || Nat.beq pc 732 || Nat.beq pc 745 || Nat.beq pc 758 || Nat.beq pc 771 || Nat.beq pc 784 || Nat.beq pc 798) 1000 false (And.intro (Nat.le_of_ble_eq_true rfl) (And.intro (Nat.le_of_ble_eq_true rfl) H1))
/-- SnapshotRingsLaw.law from 18 -/
theorem r_L_law_18 {v0 : Nat} {v1 : Nat} {v2 : Nat} {v3 : Int32} {n1 : Nat} {h : sn_H} {Q : Option Value → sn_H → Prop}
    (k1 : hK h v0 = (1, 1, n1))
    (H1 : ((nI n1) - nI 4) < v3 → Q (some (.int (nI 1))) h)
    (B2 : ¬ ((nI n1) - nI 4) < v3 → vp_in v3 n1)
    (H3 : ¬ ((nI n1) - nI 4) < v3 → ((hG h v0 v3.toNatClampNeg) &&& nI 31).toInt = 0 → wpE 174 156 [some (.ref v0), some (.ref v1), some (.ref v2), some (.int v3)] [] h (110, 9460) Q)
    (H4 : ¬ ((nI n1) - nI 4) < v3 → ((hG h v0 v3.toNatClampNeg) &&& nI 31).toInt = 1 → wpE 174 179 [some (.ref v0), some (.ref v1), some (.ref v2), some (.int v3)] [] h (110, 9460) Q)
    (H5 : ¬ ((nI n1) - nI 4) < v3 → ((hG h v0 v3.toNatClampNeg) &&& nI 31).toInt = 2 → wpE 174 222 [some (.ref v0), some (.ref v1), some (.ref v2), some (.int v3)] [] h (110, 9460) Q)
    (H6 : ¬ ((nI n1) - nI 4) < v3 → ((hG h v0 v3.toNatClampNeg) &&& nI 31).toInt = 3 → wpE 174 245 [some (.ref v0), some (.ref v1), some (.ref v2), some (.int v3)] [] h (110, 9460) Q)
    (H7 : ¬ ((nI n1) - nI 4) < v3 → ((hG h v0 v3.toNatClampNeg) &&& nI 31).toInt = 4 → wpE 174 278 [some (.ref v0), some (.ref v1), some (.ref v2), some (.int v3)] [] h (110, 9460) Q)
    (H8 : ¬ ((nI n1) - nI 4) < v3 → ((hG h v0 v3.toNatClampNeg) &&& nI 31).toInt = 5 → wpE 174 321 [some (.ref v0), some (.ref v1), some (.ref v2), some (.int v3)] [] h (110, 9460) Q)
    (H9 : ¬ ((nI n1) - nI 4) < v3 → ((hG h v0 v3.toNatClampNeg) &&& nI 31).toInt = 6 → wpE 174 344 [some (.ref v0), some (.ref v1), some (.ref v2), some (.int v3)] [] h (110, 9460) Q)
    (H10 : ¬ ((nI n1) - nI 4) < v3 → ((hG h v0 v3.toNatClampNeg) &&& nI 31).toInt = 7 → wpE 174 367 [some (.ref v0), some (.ref v1), some (.ref v2), some (.int v3)] [] h (110, 9460) Q)
    (H11 : ¬ ((nI n1) - nI 4) < v3 → ((hG h v0 v3.toNatClampNeg) &&& nI 31).toInt = 8 → wpE 174 390 [some (.ref v0), some (.ref v1), some (.ref v2), some (.int v3)] [] h (110, 9460) Q)
    (H12 : ¬ ((nI n1) - nI 4) < v3 → ((hG h v0 v3.toNatClampNeg) &&& nI 31).toInt = 9 → wpE 174 413 [some (.ref v0), some (.ref v1), some (.ref v2), some (.int v3)] [] h (110, 9460) Q)
    (H13 : ¬ ((nI n1) - nI 4) < v3 → ((hG h v0 v3.toNatClampNeg) &&& nI 31).toInt = 10 → wpE 174 436 [some (.ref v0), some (.ref v1), some (.ref v2), some (.int v3)] [] h (110, 9460) Q)
    (H14 : ¬ ((nI n1) - nI 4) < v3 → ((hG h v0 v3.toNatClampNeg) &&& nI 31).toInt = 11 → wpE 174 469 [some (.ref v0), some (.ref v1), some (.ref v2), some (.int v3)] [] h (110, 9460) Q)
    (H15 : ¬ ((nI n1) - nI 4) < v3 → ((hG h v0 v3.toNatClampNeg) &&& nI 31).toInt = 12 → wpE 174 502 [some (.ref v0), some (.ref v1), some (.ref v2), some (.int v3)] [] h (110, 9460) Q)
    (H16 : ¬ ((nI n1) - nI 4) < v3 → ((hG h v0 v3.toNatClampNeg) &&& nI 31).toInt = 13 → wpE 174 535 [some (.ref v0), some (.ref v1), some (.ref v2), some (.int v3)] [] h (110, 9460) Q)
    (H17 : ¬ ((nI n1) - nI 4) < v3 → ((hG h v0 v3.toNatClampNeg) &&& nI 31).toInt = 14 → wpE 174 568 [some (.ref v0), some (.ref v1), some (.ref v2), some (.int v3)] [] h (110, 9460) Q)
    (H18 : ¬ ((nI n1) - nI 4) < v3 → ((hG h v0 v3.toNatClampNeg) &&& nI 31).toInt = 15 → wpE 174 581 [some (.ref v0), some (.ref v1), some (.ref v2), some (.int v3)] [] h (110, 9460) Q)
    (H19 : ¬ ((nI n1) - nI 4) < v3 → ((hG h v0 v3.toNatClampNeg) &&& nI 31).toInt = 16 → wpE 174 604 [some (.ref v0), some (.ref v1), some (.ref v2), some (.int v3)] [] h (110, 9460) Q)
    (H20 : ¬ ((nI n1) - nI 4) < v3 → ((hG h v0 v3.toNatClampNeg) &&& nI 31).toInt = 17 → wpE 174 617 [some (.ref v0), some (.ref v1), some (.ref v2), some (.int v3)] [] h (110, 9460) Q)
    (H21 : ¬ ((nI n1) - nI 4) < v3 → ((hG h v0 v3.toNatClampNeg) &&& nI 31).toInt = 18 → wpE 174 640 [some (.ref v0), some (.ref v1), some (.ref v2), some (.int v3)] [] h (110, 9460) Q)
    (H22 : ¬ ((nI n1) - nI 4) < v3 → ((hG h v0 v3.toNatClampNeg) &&& nI 31).toInt = 19 → wpE 174 673 [some (.ref v0), some (.ref v1), some (.ref v2), some (.int v3)] [] h (110, 9460) Q)
    (H23 : ¬ ((nI n1) - nI 4) < v3 → ((hG h v0 v3.toNatClampNeg) &&& nI 31).toInt = 20 → wpE 174 686 [some (.ref v0), some (.ref v1), some (.ref v2), some (.int v3)] [] h (110, 9460) Q)
    (H24 : ¬ ((nI n1) - nI 4) < v3 → ((hG h v0 v3.toNatClampNeg) &&& nI 31).toInt = 21 → wpE 174 709 [some (.ref v0), some (.ref v1), some (.ref v2), some (.int v3)] [] h (110, 9460) Q)
    (H25 : ¬ ((nI n1) - nI 4) < v3 → ((hG h v0 v3.toNatClampNeg) &&& nI 31).toInt = 22 → wpE 174 732 [some (.ref v0), some (.ref v1), some (.ref v2), some (.int v3)] [] h (110, 9460) Q)
    (H26 : ¬ ((nI n1) - nI 4) < v3 → ((hG h v0 v3.toNatClampNeg) &&& nI 31).toInt = 23 → wpE 174 745 [some (.ref v0), some (.ref v1), some (.ref v2), some (.int v3)] [] h (110, 9460) Q)
    (H27 : ¬ ((nI n1) - nI 4) < v3 → ((hG h v0 v3.toNatClampNeg) &&& nI 31).toInt = 24 → wpE 174 758 [some (.ref v0), some (.ref v1), some (.ref v2), some (.int v3)] [] h (110, 9460) Q)
    (H28 : ¬ ((nI n1) - nI 4) < v3 → ((hG h v0 v3.toNatClampNeg) &&& nI 31).toInt = 25 → wpE 174 771 [some (.ref v0), some (.ref v1), some (.ref v2), some (.int v3)] [] h (110, 9460) Q)
    (H29 : ¬ ((nI n1) - nI 4) < v3 → ((hG h v0 v3.toNatClampNeg) &&& nI 31).toInt = 26 → wpE 174 784 [some (.ref v0), some (.ref v1), some (.ref v2), some (.int v3)] [] h (110, 9460) Q)
    (H30 : ¬ ((nI n1) - nI 4) < v3 → (((hG h v0 v3.toNatClampNeg) &&& nI 31).toInt < 0 ∨ 26 < ((hG h v0 v3.toNatClampNeg) &&& nI 31).toInt) → wpE 174 798 [some (.ref v0), some (.ref v1), some (.ref v2), some (.int v3)] [] h (110, 9460) Q) :
    wpE 174 18 [some (.ref v0), some (.ref v1), some (.ref v2), some (.int v3)] [] h (110, 9460) Q :=
  vc_s (ct := fun pc => Nat.beq pc 3 || Nat.beq pc 11 || Nat.beq pc 18 || Nat.beq pc 156 || Nat.beq pc 179 || Nat.beq pc 222 || Nat.beq pc 245 || Nat.beq pc 278 || Nat.beq pc 321 || Nat.beq pc 344 || Nat.beq pc 367 || Nat.beq pc 390 || Nat.beq pc 413 || Nat.beq pc 436 || Nat.beq pc 469 || Nat.beq pc 502 || Nat.beq pc 535 || Nat.beq pc 568 || Nat.beq pc 581 || Nat.beq pc 604 || Nat.beq pc 617 || Nat.beq pc 640 || Nat.beq pc 673 || Nat.beq pc 686 || Nat.beq pc 709 || Nat.beq pc 732 || Nat.beq pc 745 || Nat.beq pc 758 || Nat.beq pc 771 || Nat.beq pc 784 || Nat.beq pc 798) 1000 false (Exists.intro 1 (Exists.intro n1 (And.intro k1 (And.intro (fun c1 => (And.intro rfl (H1 c1))) (fun c2 => (Exists.intro 1 (Exists.intro n1 (And.intro k1 (And.intro (B2 c2) (And.intro (And.intro (fun c3 => (H3 c2 c3)) (And.intro (fun c4 => (H4 c2 c4)) (And.intro (fun c5 => (H5 c2 c5)) (And.intro (fun c6 => (H6 c2 c6)) (And.intro (fun c7 => (H7 c2 c7)) (And.intro (fun c8 => (H8 c2 c8)) (And.intro (fun c9 => (H9 c2 c9)) (And.intro (fun c10 => (H10 c2 c10)) (And.intro (fun c11 => (H11 c2 c11)) (And.intro (fun c12 => (H12 c2 c12)) (And.intro (fun c13 => (H13 c2 c13)) (And.intro (fun c14 => (H14 c2 c14)) (And.intro (fun c15 => (H15 c2 c15)) (And.intro (fun c16 => (H16 c2 c16)) (And.intro (fun c17 => (H17 c2 c17)) (And.intro (fun c18 => (H18 c2 c18)) (And.intro (fun c19 => (H19 c2 c19)) (And.intro (fun c20 => (H20 c2 c20)) (And.intro (fun c21 => (H21 c2 c21)) (And.intro (fun c22 => (H22 c2 c22)) (And.intro (fun c23 => (H23 c2 c23)) (And.intro (fun c24 => (H24 c2 c24)) (And.intro (fun c25 => (H25 c2 c25)) (And.intro (fun c26 => (H26 c2 c26)) (And.intro (fun c27 => (H27 c2 c27)) (And.intro (fun c28 => (H28 c2 c28)) (And.intro (fun c29 => (H29 c2 c29)) True.intro))))))))))))))))))))))))))) (fun c30 => (H30 c2 c30))))))))))))
/-- SnapshotRingsLaw.law from 156 -/
theorem r_L_law_156 {v0 : Nat} {v1 : Nat} {v2 : Nat} {v3 : Int32} {n1 : Nat} {h : sn_H} {Q : Option Value → sn_H → Prop}
    (k1 : hK h v0 = (1, 1, n1))
    (k2 : hK h v1 = (0, 0, 5))
    (B1 : vp_in (v3 + nI 1) n1)
    (H2 : wpE 5 0 [some (.ref v1), some (.int (hG h v0 (v3 + nI 1).toNatClampNeg)), none] [] h (0, 0) (fun r hh => wpE 174 165 [some (.ref v0), some (.ref v1), some (.ref v2), some (.int v3)] (r.toList ++ []) hh (110, 9460) Q)) :
    wpE 174 156 [some (.ref v0), some (.ref v1), some (.ref v2), some (.int v3)] [] h (110, 9460) Q :=
  vc_s (ct := fun pc => Nat.beq pc 3 || Nat.beq pc 11 || Nat.beq pc 18 || Nat.beq pc 156 || Nat.beq pc 179 || Nat.beq pc 222 || Nat.beq pc 245 || Nat.beq pc 278 || Nat.beq pc 321 || Nat.beq pc 344 || Nat.beq pc 367 || Nat.beq pc 390 || Nat.beq pc 413 || Nat.beq pc 436 || Nat.beq pc 469 || Nat.beq pc 502 || Nat.beq pc 535 || Nat.beq pc 568 || Nat.beq pc 581 || Nat.beq pc 604 || Nat.beq pc 617 || Nat.beq pc 640 || Nat.beq pc 673 || Nat.beq pc 686 || Nat.beq pc 709 || Nat.beq pc 732 || Nat.beq pc 745 || Nat.beq pc 758 || Nat.beq pc 771 || Nat.beq pc 784 || Nat.beq pc 798) 1000 false (Exists.intro 1 (Exists.intro n1 (And.intro k1 (And.intro B1 (And.intro k2 (And.intro (Nat.le_of_ble_eq_true rfl) (And.intro (Nat.le_of_ble_eq_true rfl) (And.intro (Nat.le_of_ble_eq_true rfl) (And.intro (Nat.le_of_ble_eq_true rfl) H2)))))))))
/-- SnapshotRingsLaw.law from 179 -/
theorem r_L_law_179 {v0 : Nat} {v1 : Nat} {v2 : Nat} {v3 : Int32} {n1 : Nat} {h : sn_H} {Q : Option Value → sn_H → Prop}
    (k1 : hK h v0 = (1, 1, n1))
    (k2 : hK h v1 = (0, 0, 5))
    (B1 : vp_in (v3 + nI 1) n1)
    (B2 : vp_in (v3 + nI 2) n1)
    (B3 : vp_in (v3 + nI 3) n1)
    (H4 : wpE 8 0 [some (.ref v1), some (.int (hG h v0 (v3 + nI 1).toNatClampNeg)), some (.int (hG h v0 (v3 + nI 2).toNatClampNeg)), some (.int (hG h v0 (v3 + nI 3).toNatClampNeg)), none] [] h (0, 0) (fun r hh => wpE 174 198 [some (.ref v0), some (.ref v1), some (.ref v2), some (.int v3)] (r.toList ++ []) hh (110, 9460) Q)) :
    wpE 174 179 [some (.ref v0), some (.ref v1), some (.ref v2), some (.int v3)] [] h (110, 9460) Q :=
  vc_s (ct := fun pc => Nat.beq pc 3 || Nat.beq pc 11 || Nat.beq pc 18 || Nat.beq pc 156 || Nat.beq pc 179 || Nat.beq pc 222 || Nat.beq pc 245 || Nat.beq pc 278 || Nat.beq pc 321 || Nat.beq pc 344 || Nat.beq pc 367 || Nat.beq pc 390 || Nat.beq pc 413 || Nat.beq pc 436 || Nat.beq pc 469 || Nat.beq pc 502 || Nat.beq pc 535 || Nat.beq pc 568 || Nat.beq pc 581 || Nat.beq pc 604 || Nat.beq pc 617 || Nat.beq pc 640 || Nat.beq pc 673 || Nat.beq pc 686 || Nat.beq pc 709 || Nat.beq pc 732 || Nat.beq pc 745 || Nat.beq pc 758 || Nat.beq pc 771 || Nat.beq pc 784 || Nat.beq pc 798) 1000 false (Exists.intro 1 (Exists.intro n1 (And.intro k1 (And.intro B1 (Exists.intro 1 (Exists.intro n1 (And.intro k1 (And.intro B2 (Exists.intro 1 (Exists.intro n1 (And.intro k1 (And.intro B3 (And.intro k2 (And.intro (Nat.le_of_ble_eq_true rfl) (And.intro (Nat.le_of_ble_eq_true rfl) (And.intro (Nat.le_of_ble_eq_true rfl) (And.intro (Nat.le_of_ble_eq_true rfl) H4)))))))))))))))))
/-- SnapshotRingsLaw.law from 222 -/
theorem r_L_law_222 {v0 : Nat} {v1 : Nat} {v2 : Nat} {v3 : Int32} {n1 : Nat} {h : sn_H} {Q : Option Value → sn_H → Prop}
    (k1 : hK h v0 = (1, 1, n1))
    (k2 : hK h v1 = (0, 0, 5))
    (B1 : vp_in (v3 + nI 1) n1)
    (H2 : wpE 10 0 [some (.ref v1), some (.int (hG h v0 (v3 + nI 1).toNatClampNeg)), none] [] h (0, 0) (fun r hh => wpE 174 231 [some (.ref v0), some (.ref v1), some (.ref v2), some (.int v3)] (r.toList ++ []) hh (110, 9460) Q)) :
    wpE 174 222 [some (.ref v0), some (.ref v1), some (.ref v2), some (.int v3)] [] h (110, 9460) Q :=
  vc_s (ct := fun pc => Nat.beq pc 3 || Nat.beq pc 11 || Nat.beq pc 18 || Nat.beq pc 156 || Nat.beq pc 179 || Nat.beq pc 222 || Nat.beq pc 245 || Nat.beq pc 278 || Nat.beq pc 321 || Nat.beq pc 344 || Nat.beq pc 367 || Nat.beq pc 390 || Nat.beq pc 413 || Nat.beq pc 436 || Nat.beq pc 469 || Nat.beq pc 502 || Nat.beq pc 535 || Nat.beq pc 568 || Nat.beq pc 581 || Nat.beq pc 604 || Nat.beq pc 617 || Nat.beq pc 640 || Nat.beq pc 673 || Nat.beq pc 686 || Nat.beq pc 709 || Nat.beq pc 732 || Nat.beq pc 745 || Nat.beq pc 758 || Nat.beq pc 771 || Nat.beq pc 784 || Nat.beq pc 798) 1000 false (Exists.intro 1 (Exists.intro n1 (And.intro k1 (And.intro B1 (And.intro k2 (And.intro (Nat.le_of_ble_eq_true rfl) (And.intro (Nat.le_of_ble_eq_true rfl) (And.intro (Nat.le_of_ble_eq_true rfl) (And.intro (Nat.le_of_ble_eq_true rfl) H2)))))))))
/-- SnapshotRingsLaw.law from 245 -/
theorem r_L_law_245 {v0 : Nat} {v1 : Nat} {v2 : Nat} {v3 : Int32} {n1 : Nat} {h : sn_H} {Q : Option Value → sn_H → Prop}
    (k1 : hK h v0 = (1, 1, n1))
    (k2 : hK h v1 = (0, 0, 5))
    (B1 : vp_in (v3 + nI 1) n1)
    (B2 : vp_in (v3 + nI 2) n1)
    (H3 : wpE 16 0 [some (.ref v1), some (.int (hG h v0 (v3 + nI 1).toNatClampNeg)), some (.int (hG h v0 (v3 + nI 2).toNatClampNeg)), none] [] h (0, 0) (fun r hh => wpE 174 259 [some (.ref v0), some (.ref v1), some (.ref v2), some (.int v3)] (r.toList ++ []) hh (110, 9460) Q)) :
    wpE 174 245 [some (.ref v0), some (.ref v1), some (.ref v2), some (.int v3)] [] h (110, 9460) Q :=
  vc_s (ct := fun pc => Nat.beq pc 3 || Nat.beq pc 11 || Nat.beq pc 18 || Nat.beq pc 156 || Nat.beq pc 179 || Nat.beq pc 222 || Nat.beq pc 245 || Nat.beq pc 278 || Nat.beq pc 321 || Nat.beq pc 344 || Nat.beq pc 367 || Nat.beq pc 390 || Nat.beq pc 413 || Nat.beq pc 436 || Nat.beq pc 469 || Nat.beq pc 502 || Nat.beq pc 535 || Nat.beq pc 568 || Nat.beq pc 581 || Nat.beq pc 604 || Nat.beq pc 617 || Nat.beq pc 640 || Nat.beq pc 673 || Nat.beq pc 686 || Nat.beq pc 709 || Nat.beq pc 732 || Nat.beq pc 745 || Nat.beq pc 758 || Nat.beq pc 771 || Nat.beq pc 784 || Nat.beq pc 798) 1000 false (Exists.intro 1 (Exists.intro n1 (And.intro k1 (And.intro B1 (Exists.intro 1 (Exists.intro n1 (And.intro k1 (And.intro B2 (And.intro k2 (And.intro (Nat.le_of_ble_eq_true rfl) (And.intro (Nat.le_of_ble_eq_true rfl) (And.intro (Nat.le_of_ble_eq_true rfl) (And.intro (Nat.le_of_ble_eq_true rfl) H3)))))))))))))
/-- SnapshotRingsLaw.law from 278 -/
theorem r_L_law_278 {v0 : Nat} {v1 : Nat} {v2 : Nat} {v3 : Int32} {n1 : Nat} {h : sn_H} {Q : Option Value → sn_H → Prop}
    (k1 : hK h v0 = (1, 1, n1))
    (k2 : hK h v1 = (0, 0, 5))
    (B1 : vp_in (v3 + nI 1) n1)
    (B2 : vp_in (v3 + nI 2) n1)
    (B3 : vp_in (v3 + nI 3) n1)
    (H4 : wpE 21 0 [some (.ref v1), some (.int (hG h v0 (v3 + nI 1).toNatClampNeg)), some (.int (hG h v0 (v3 + nI 2).toNatClampNeg)), some (.int (hG h v0 (v3 + nI 3).toNatClampNeg)), none] [] h (0, 0) (fun r hh => wpE 174 297 [some (.ref v0), some (.ref v1), some (.ref v2), some (.int v3)] (r.toList ++ []) hh (110, 9460) Q)) :
    wpE 174 278 [some (.ref v0), some (.ref v1), some (.ref v2), some (.int v3)] [] h (110, 9460) Q :=
  vc_s (ct := fun pc => Nat.beq pc 3 || Nat.beq pc 11 || Nat.beq pc 18 || Nat.beq pc 156 || Nat.beq pc 179 || Nat.beq pc 222 || Nat.beq pc 245 || Nat.beq pc 278 || Nat.beq pc 321 || Nat.beq pc 344 || Nat.beq pc 367 || Nat.beq pc 390 || Nat.beq pc 413 || Nat.beq pc 436 || Nat.beq pc 469 || Nat.beq pc 502 || Nat.beq pc 535 || Nat.beq pc 568 || Nat.beq pc 581 || Nat.beq pc 604 || Nat.beq pc 617 || Nat.beq pc 640 || Nat.beq pc 673 || Nat.beq pc 686 || Nat.beq pc 709 || Nat.beq pc 732 || Nat.beq pc 745 || Nat.beq pc 758 || Nat.beq pc 771 || Nat.beq pc 784 || Nat.beq pc 798) 1000 false (Exists.intro 1 (Exists.intro n1 (And.intro k1 (And.intro B1 (Exists.intro 1 (Exists.intro n1 (And.intro k1 (And.intro B2 (Exists.intro 1 (Exists.intro n1 (And.intro k1 (And.intro B3 (And.intro k2 (And.intro (Nat.le_of_ble_eq_true rfl) (And.intro (Nat.le_of_ble_eq_true rfl) (And.intro (Nat.le_of_ble_eq_true rfl) (And.intro (Nat.le_of_ble_eq_true rfl) H4)))))))))))))))))
/-- SnapshotRingsLaw.law from 321 -/
theorem r_L_law_321 {v0 : Nat} {v1 : Nat} {v2 : Nat} {v3 : Int32} {n1 : Nat} {h : sn_H} {Q : Option Value → sn_H → Prop}
    (k1 : hK h v0 = (1, 1, n1))
    (k2 : hK h v1 = (0, 0, 5))
    (B1 : vp_in (v3 + nI 1) n1)
    (H2 : wpE 25 0 [some (.ref v1), some (.int (hG h v0 (v3 + nI 1).toNatClampNeg)), none] [] h (0, 0) (fun r hh => wpE 174 330 [some (.ref v0), some (.ref v1), some (.ref v2), some (.int v3)] (r.toList ++ []) hh (110, 9460) Q)) :
    wpE 174 321 [some (.ref v0), some (.ref v1), some (.ref v2), some (.int v3)] [] h (110, 9460) Q :=
  vc_s (ct := fun pc => Nat.beq pc 3 || Nat.beq pc 11 || Nat.beq pc 18 || Nat.beq pc 156 || Nat.beq pc 179 || Nat.beq pc 222 || Nat.beq pc 245 || Nat.beq pc 278 || Nat.beq pc 321 || Nat.beq pc 344 || Nat.beq pc 367 || Nat.beq pc 390 || Nat.beq pc 413 || Nat.beq pc 436 || Nat.beq pc 469 || Nat.beq pc 502 || Nat.beq pc 535 || Nat.beq pc 568 || Nat.beq pc 581 || Nat.beq pc 604 || Nat.beq pc 617 || Nat.beq pc 640 || Nat.beq pc 673 || Nat.beq pc 686 || Nat.beq pc 709 || Nat.beq pc 732 || Nat.beq pc 745 || Nat.beq pc 758 || Nat.beq pc 771 || Nat.beq pc 784 || Nat.beq pc 798) 1000 false (Exists.intro 1 (Exists.intro n1 (And.intro k1 (And.intro B1 (And.intro k2 (And.intro (Nat.le_of_ble_eq_true rfl) (And.intro (Nat.le_of_ble_eq_true rfl) (And.intro (Nat.le_of_ble_eq_true rfl) (And.intro (Nat.le_of_ble_eq_true rfl) H2)))))))))
/-- SnapshotRingsLaw.law from 344 -/
theorem r_L_law_344 {v0 : Nat} {v1 : Nat} {v2 : Nat} {v3 : Int32} {n1 : Nat} {h : sn_H} {Q : Option Value → sn_H → Prop}
    (k1 : hK h v0 = (1, 1, n1))
    (k2 : hK h v1 = (0, 0, 5))
    (B1 : vp_in (v3 + nI 1) n1)
    (H2 : wpE 44 0 [some (.ref v1), some (.int (hG h v0 (v3 + nI 1).toNatClampNeg)), none] [] h (0, 0) (fun r hh => wpE 174 353 [some (.ref v0), some (.ref v1), some (.ref v2), some (.int v3)] (r.toList ++ []) hh (110, 9460) Q)) :
    wpE 174 344 [some (.ref v0), some (.ref v1), some (.ref v2), some (.int v3)] [] h (110, 9460) Q :=
  vc_s (ct := fun pc => Nat.beq pc 3 || Nat.beq pc 11 || Nat.beq pc 18 || Nat.beq pc 156 || Nat.beq pc 179 || Nat.beq pc 222 || Nat.beq pc 245 || Nat.beq pc 278 || Nat.beq pc 321 || Nat.beq pc 344 || Nat.beq pc 367 || Nat.beq pc 390 || Nat.beq pc 413 || Nat.beq pc 436 || Nat.beq pc 469 || Nat.beq pc 502 || Nat.beq pc 535 || Nat.beq pc 568 || Nat.beq pc 581 || Nat.beq pc 604 || Nat.beq pc 617 || Nat.beq pc 640 || Nat.beq pc 673 || Nat.beq pc 686 || Nat.beq pc 709 || Nat.beq pc 732 || Nat.beq pc 745 || Nat.beq pc 758 || Nat.beq pc 771 || Nat.beq pc 784 || Nat.beq pc 798) 1000 false (Exists.intro 1 (Exists.intro n1 (And.intro k1 (And.intro B1 (And.intro k2 (And.intro (Nat.le_of_ble_eq_true rfl) (And.intro (Nat.le_of_ble_eq_true rfl) (And.intro (Nat.le_of_ble_eq_true rfl) (And.intro (Nat.le_of_ble_eq_true rfl) H2)))))))))
/-- SnapshotRingsLaw.law from 367 -/
theorem r_L_law_367 {v0 : Nat} {v1 : Nat} {v2 : Nat} {v3 : Int32} {n1 : Nat} {h : sn_H} {Q : Option Value → sn_H → Prop}
    (k1 : hK h v0 = (1, 1, n1))
    (k2 : hK h v1 = (0, 0, 5))
    (B1 : vp_in (v3 + nI 1) n1)
    (H2 : wpE 46 0 [some (.ref v1), some (.int (hG h v0 (v3 + nI 1).toNatClampNeg))] [] h (0, 0) (fun r hh => wpE 174 376 [some (.ref v0), some (.ref v1), some (.ref v2), some (.int v3)] (r.toList ++ []) hh (110, 9460) Q)) :
    wpE 174 367 [some (.ref v0), some (.ref v1), some (.ref v2), some (.int v3)] [] h (110, 9460) Q :=
  vc_s (ct := fun pc => Nat.beq pc 3 || Nat.beq pc 11 || Nat.beq pc 18 || Nat.beq pc 156 || Nat.beq pc 179 || Nat.beq pc 222 || Nat.beq pc 245 || Nat.beq pc 278 || Nat.beq pc 321 || Nat.beq pc 344 || Nat.beq pc 367 || Nat.beq pc 390 || Nat.beq pc 413 || Nat.beq pc 436 || Nat.beq pc 469 || Nat.beq pc 502 || Nat.beq pc 535 || Nat.beq pc 568 || Nat.beq pc 581 || Nat.beq pc 604 || Nat.beq pc 617 || Nat.beq pc 640 || Nat.beq pc 673 || Nat.beq pc 686 || Nat.beq pc 709 || Nat.beq pc 732 || Nat.beq pc 745 || Nat.beq pc 758 || Nat.beq pc 771 || Nat.beq pc 784 || Nat.beq pc 798) 1000 false (Exists.intro 1 (Exists.intro n1 (And.intro k1 (And.intro B1 (And.intro k2 (And.intro (Nat.le_of_ble_eq_true rfl) (And.intro (Nat.le_of_ble_eq_true rfl) (And.intro (Nat.le_of_ble_eq_true rfl) (And.intro (Nat.le_of_ble_eq_true rfl) H2)))))))))
/-- SnapshotRingsLaw.law from 390 -/
theorem r_L_law_390 {v0 : Nat} {v1 : Nat} {v2 : Nat} {v3 : Int32} {n1 : Nat} {h : sn_H} {Q : Option Value → sn_H → Prop}
    (k1 : hK h v0 = (1, 1, n1))
    (k2 : hK h v1 = (0, 0, 5))
    (B1 : vp_in (v3 + nI 1) n1)
    (H2 : wpE 47 0 [some (.ref v1), some (.int (hG h v0 (v3 + nI 1).toNatClampNeg))] [] h (0, 0) (fun r hh => wpE 174 399 [some (.ref v0), some (.ref v1), some (.ref v2), some (.int v3)] (r.toList ++ []) hh (110, 9460) Q)) :
    wpE 174 390 [some (.ref v0), some (.ref v1), some (.ref v2), some (.int v3)] [] h (110, 9460) Q :=
  vc_s (ct := fun pc => Nat.beq pc 3 || Nat.beq pc 11 || Nat.beq pc 18 || Nat.beq pc 156 || Nat.beq pc 179 || Nat.beq pc 222 || Nat.beq pc 245 || Nat.beq pc 278 || Nat.beq pc 321 || Nat.beq pc 344 || Nat.beq pc 367 || Nat.beq pc 390 || Nat.beq pc 413 || Nat.beq pc 436 || Nat.beq pc 469 || Nat.beq pc 502 || Nat.beq pc 535 || Nat.beq pc 568 || Nat.beq pc 581 || Nat.beq pc 604 || Nat.beq pc 617 || Nat.beq pc 640 || Nat.beq pc 673 || Nat.beq pc 686 || Nat.beq pc 709 || Nat.beq pc 732 || Nat.beq pc 745 || Nat.beq pc 758 || Nat.beq pc 771 || Nat.beq pc 784 || Nat.beq pc 798) 1000 false (Exists.intro 1 (Exists.intro n1 (And.intro k1 (And.intro B1 (And.intro k2 (And.intro (Nat.le_of_ble_eq_true rfl) (And.intro (Nat.le_of_ble_eq_true rfl) (And.intro (Nat.le_of_ble_eq_true rfl) (And.intro (Nat.le_of_ble_eq_true rfl) H2)))))))))
/-- SnapshotRingsLaw.law from 413 -/
theorem r_L_law_413 {v0 : Nat} {v1 : Nat} {v2 : Nat} {v3 : Int32} {n1 : Nat} {h : sn_H} {Q : Option Value → sn_H → Prop}
    (k1 : hK h v0 = (1, 1, n1))
    (k2 : hK h v1 = (0, 0, 5))
    (B1 : vp_in (v3 + nI 1) n1)
    (H2 : wpE 48 0 [some (.ref v1), some (.int (hG h v0 (v3 + nI 1).toNatClampNeg))] [] h (0, 0) (fun r hh => wpE 174 422 [some (.ref v0), some (.ref v1), some (.ref v2), some (.int v3)] (r.toList ++ []) hh (110, 9460) Q)) :
    wpE 174 413 [some (.ref v0), some (.ref v1), some (.ref v2), some (.int v3)] [] h (110, 9460) Q :=
  vc_s (ct := fun pc => Nat.beq pc 3 || Nat.beq pc 11 || Nat.beq pc 18 || Nat.beq pc 156 || Nat.beq pc 179 || Nat.beq pc 222 || Nat.beq pc 245 || Nat.beq pc 278 || Nat.beq pc 321 || Nat.beq pc 344 || Nat.beq pc 367 || Nat.beq pc 390 || Nat.beq pc 413 || Nat.beq pc 436 || Nat.beq pc 469 || Nat.beq pc 502 || Nat.beq pc 535 || Nat.beq pc 568 || Nat.beq pc 581 || Nat.beq pc 604 || Nat.beq pc 617 || Nat.beq pc 640 || Nat.beq pc 673 || Nat.beq pc 686 || Nat.beq pc 709 || Nat.beq pc 732 || Nat.beq pc 745 || Nat.beq pc 758 || Nat.beq pc 771 || Nat.beq pc 784 || Nat.beq pc 798) 1000 false (Exists.intro 1 (Exists.intro n1 (And.intro k1 (And.intro B1 (And.intro k2 (And.intro (Nat.le_of_ble_eq_true rfl) (And.intro (Nat.le_of_ble_eq_true rfl) (And.intro (Nat.le_of_ble_eq_true rfl) (And.intro (Nat.le_of_ble_eq_true rfl) H2)))))))))
/-- SnapshotRingsLaw.law from 436 -/
theorem r_L_law_436 {v0 : Nat} {v1 : Nat} {v2 : Nat} {v3 : Int32} {n1 : Nat} {h : sn_H} {Q : Option Value → sn_H → Prop}
    (k1 : hK h v0 = (1, 1, n1))
    (k2 : hK h v1 = (0, 0, 5))
    (B1 : vp_in (v3 + nI 1) n1)
    (B2 : vp_in (v3 + nI 2) n1)
    (H3 : wpE 49 0 [some (.ref v1), some (.int (hG h v0 (v3 + nI 1).toNatClampNeg)), some (.int (hG h v0 (v3 + nI 2).toNatClampNeg)), none] [] h (0, 0) (fun r hh => wpE 174 450 [some (.ref v0), some (.ref v1), some (.ref v2), some (.int v3)] (r.toList ++ []) hh (110, 9460) Q)) :
    wpE 174 436 [some (.ref v0), some (.ref v1), some (.ref v2), some (.int v3)] [] h (110, 9460) Q :=
  vc_s (ct := fun pc => Nat.beq pc 3 || Nat.beq pc 11 || Nat.beq pc 18 || Nat.beq pc 156 || Nat.beq pc 179 || Nat.beq pc 222 || Nat.beq pc 245 || Nat.beq pc 278 || Nat.beq pc 321 || Nat.beq pc 344 || Nat.beq pc 367 || Nat.beq pc 390 || Nat.beq pc 413 || Nat.beq pc 436 || Nat.beq pc 469 || Nat.beq pc 502 || Nat.beq pc 535 || Nat.beq pc 568 || Nat.beq pc 581 || Nat.beq pc 604 || Nat.beq pc 617 || Nat.beq pc 640 || Nat.beq pc 673 || Nat.beq pc 686 || Nat.beq pc 709 || Nat.beq pc 732 || Nat.beq pc 745 || Nat.beq pc 758 || Nat.beq pc 771 || Nat.beq pc 784 || Nat.beq pc 798) 1000 false (Exists.intro 1 (Exists.intro n1 (And.intro k1 (And.intro B1 (Exists.intro 1 (Exists.intro n1 (And.intro k1 (And.intro B2 (And.intro k2 (And.intro (Nat.le_of_ble_eq_true rfl) (And.intro (Nat.le_of_ble_eq_true rfl) (And.intro (Nat.le_of_ble_eq_true rfl) (And.intro (Nat.le_of_ble_eq_true rfl) H3)))))))))))))
/-- SnapshotRingsLaw.law from 469 -/
theorem r_L_law_469 {v0 : Nat} {v1 : Nat} {v2 : Nat} {v3 : Int32} {n1 : Nat} {h : sn_H} {Q : Option Value → sn_H → Prop}
    (k1 : hK h v0 = (1, 1, n1))
    (k2 : hK h v1 = (0, 0, 5))
    (B1 : vp_in (v3 + nI 1) n1)
    (B2 : vp_in (v3 + nI 2) n1)
    (H3 : wpE 51 0 [some (.ref v1), some (.int (hG h v0 (v3 + nI 1).toNatClampNeg)), some (.int (hG h v0 (v3 + nI 2).toNatClampNeg))] [] h (0, 0) (fun r hh => wpE 174 483 [some (.ref v0), some (.ref v1), some (.ref v2), some (.int v3)] (r.toList ++ []) hh (110, 9460) Q)) :
    wpE 174 469 [some (.ref v0), some (.ref v1), some (.ref v2), some (.int v3)] [] h (110, 9460) Q :=
  vc_s (ct := fun pc => Nat.beq pc 3 || Nat.beq pc 11 || Nat.beq pc 18 || Nat.beq pc 156 || Nat.beq pc 179 || Nat.beq pc 222 || Nat.beq pc 245 || Nat.beq pc 278 || Nat.beq pc 321 || Nat.beq pc 344 || Nat.beq pc 367 || Nat.beq pc 390 || Nat.beq pc 413 || Nat.beq pc 436 || Nat.beq pc 469 || Nat.beq pc 502 || Nat.beq pc 535 || Nat.beq pc 568 || Nat.beq pc 581 || Nat.beq pc 604 || Nat.beq pc 617 || Nat.beq pc 640 || Nat.beq pc 673 || Nat.beq pc 686 || Nat.beq pc 709 || Nat.beq pc 732 || Nat.beq pc 745 || Nat.beq pc 758 || Nat.beq pc 771 || Nat.beq pc 784 || Nat.beq pc 798) 1000 false (Exists.intro 1 (Exists.intro n1 (And.intro k1 (And.intro B1 (Exists.intro 1 (Exists.intro n1 (And.intro k1 (And.intro B2 (And.intro k2 (And.intro (Nat.le_of_ble_eq_true rfl) (And.intro (Nat.le_of_ble_eq_true rfl) (And.intro (Nat.le_of_ble_eq_true rfl) (And.intro (Nat.le_of_ble_eq_true rfl) H3)))))))))))))
/-- SnapshotRingsLaw.law from 502 -/
theorem r_L_law_502 {v0 : Nat} {v1 : Nat} {v2 : Nat} {v3 : Int32} {n1 : Nat} {h : sn_H} {Q : Option Value → sn_H → Prop}
    (k1 : hK h v0 = (1, 1, n1))
    (k2 : hK h v1 = (0, 0, 5))
    (B1 : vp_in (v3 + nI 1) n1)
    (B2 : vp_in (v3 + nI 2) n1)
    (H3 : wpE 53 0 [some (.ref v1), some (.int (hG h v0 (v3 + nI 1).toNatClampNeg)), some (.int (hG h v0 (v3 + nI 2).toNatClampNeg))] [] h (0, 0) (fun r hh => wpE 174 516 [some (.ref v0), some (.ref v1), some (.ref v2), some (.int v3)] (r.toList ++ []) hh (110, 9460) Q)) :
    wpE 174 502 [some (.ref v0), some (.ref v1), some (.ref v2), some (.int v3)] [] h (110, 9460) Q :=
  vc_s (ct := fun pc => Nat.beq pc 3 || Nat.beq pc 11 || Nat.beq pc 18 || Nat.beq pc 156 || Nat.beq pc 179 || Nat.beq pc 222 || Nat.beq pc 245 || Nat.beq pc 278 || Nat.beq pc 321 || Nat.beq pc 344 || Nat.beq pc 367 || Nat.beq pc 390 || Nat.beq pc 413 || Nat.beq pc 436 || Nat.beq pc 469 || Nat.beq pc 502 || Nat.beq pc 535 || Nat.beq pc 568 || Nat.beq pc 581 || Nat.beq pc 604 || Nat.beq pc 617 || Nat.beq pc 640 || Nat.beq pc 673 || Nat.beq pc 686 || Nat.beq pc 709 || Nat.beq pc 732 || Nat.beq pc 745 || Nat.beq pc 758 || Nat.beq pc 771 || Nat.beq pc 784 || Nat.beq pc 798) 1000 false (Exists.intro 1 (Exists.intro n1 (And.intro k1 (And.intro B1 (Exists.intro 1 (Exists.intro n1 (And.intro k1 (And.intro B2 (And.intro k2 (And.intro (Nat.le_of_ble_eq_true rfl) (And.intro (Nat.le_of_ble_eq_true rfl) (And.intro (Nat.le_of_ble_eq_true rfl) (And.intro (Nat.le_of_ble_eq_true rfl) H3)))))))))))))
/-- SnapshotRingsLaw.law from 535 -/
theorem r_L_law_535 {v0 : Nat} {v1 : Nat} {v2 : Nat} {v3 : Int32} {n1 : Nat} {h : sn_H} {Q : Option Value → sn_H → Prop}
    (k1 : hK h v0 = (1, 1, n1))
    (k2 : hK h v1 = (0, 0, 5))
    (B1 : vp_in (v3 + nI 1) n1)
    (B2 : vp_in (v3 + nI 2) n1)
    (H3 : wpE 54 0 [some (.ref v1), some (.int (hG h v0 (v3 + nI 1).toNatClampNeg)), some (.int (hG h v0 (v3 + nI 2).toNatClampNeg)), none] [] h (0, 0) (fun r hh => wpE 174 549 [some (.ref v0), some (.ref v1), some (.ref v2), some (.int v3)] (r.toList ++ []) hh (110, 9460) Q)) :
    wpE 174 535 [some (.ref v0), some (.ref v1), some (.ref v2), some (.int v3)] [] h (110, 9460) Q :=
  vc_s (ct := fun pc => Nat.beq pc 3 || Nat.beq pc 11 || Nat.beq pc 18 || Nat.beq pc 156 || Nat.beq pc 179 || Nat.beq pc 222 || Nat.beq pc 245 || Nat.beq pc 278 || Nat.beq pc 321 || Nat.beq pc 344 || Nat.beq pc 367 || Nat.beq pc 390 || Nat.beq pc 413 || Nat.beq pc 436 || Nat.beq pc 469 || Nat.beq pc 502 || Nat.beq pc 535 || Nat.beq pc 568 || Nat.beq pc 581 || Nat.beq pc 604 || Nat.beq pc 617 || Nat.beq pc 640 || Nat.beq pc 673 || Nat.beq pc 686 || Nat.beq pc 709 || Nat.beq pc 732 || Nat.beq pc 745 || Nat.beq pc 758 || Nat.beq pc 771 || Nat.beq pc 784 || Nat.beq pc 798) 1000 false (Exists.intro 1 (Exists.intro n1 (And.intro k1 (And.intro B1 (Exists.intro 1 (Exists.intro n1 (And.intro k1 (And.intro B2 (And.intro k2 (And.intro (Nat.le_of_ble_eq_true rfl) (And.intro (Nat.le_of_ble_eq_true rfl) (And.intro (Nat.le_of_ble_eq_true rfl) (And.intro (Nat.le_of_ble_eq_true rfl) H3)))))))))))))
/-- SnapshotRingsLaw.law from 568 -/
theorem r_L_law_568 {v0 : Nat} {v1 : Nat} {v2 : Nat} {v3 : Int32} {h : sn_H} {Q : Option Value → sn_H → Prop}
    (k1 : hK h v1 = (0, 0, 5))
    (H1 : wpE 56 0 [some (.ref v1)] [] h (0, 0) (fun r hh => wpE 174 572 [some (.ref v0), some (.ref v1), some (.ref v2), some (.int v3)] (r.toList ++ []) hh (110, 9460) Q)) :
    wpE 174 568 [some (.ref v0), some (.ref v1), some (.ref v2), some (.int v3)] [] h (110, 9460) Q :=
  vc_s (ct := fun pc => Nat.beq pc 3 || Nat.beq pc 11 || Nat.beq pc 18 || Nat.beq pc 156 || Nat.beq pc 179 || Nat.beq pc 222 || Nat.beq pc 245 || Nat.beq pc 278 || Nat.beq pc 321 || Nat.beq pc 344 || Nat.beq pc 367 || Nat.beq pc 390 || Nat.beq pc 413 || Nat.beq pc 436 || Nat.beq pc 469 || Nat.beq pc 502 || Nat.beq pc 535 || Nat.beq pc 568 || Nat.beq pc 581 || Nat.beq pc 604 || Nat.beq pc 617 || Nat.beq pc 640 || Nat.beq pc 673 || Nat.beq pc 686 || Nat.beq pc 709 || Nat.beq pc 732 || Nat.beq pc 745 || Nat.beq pc 758 || Nat.beq pc 771 || Nat.beq pc 784 || Nat.beq pc 798) 1000 false (And.intro k1 (And.intro (Nat.le_of_ble_eq_true rfl) (And.intro (Nat.le_of_ble_eq_true rfl) (And.intro (Nat.le_of_ble_eq_true rfl) (And.intro (Nat.le_of_ble_eq_true rfl) H1)))))
/-- SnapshotRingsLaw.law from 581 -/
theorem r_L_law_581 {v0 : Nat} {v1 : Nat} {v2 : Nat} {v3 : Int32} {n1 : Nat} {h : sn_H} {Q : Option Value → sn_H → Prop}
    (k1 : hK h v0 = (1, 1, n1))
    (k2 : hK h v1 = (0, 0, 5))
    (B1 : vp_in (v3 + nI 1) n1)
    (H2 : wpE 58 0 [some (.ref v1), some (.int (hG h v0 (v3 + nI 1).toNatClampNeg))] [] h (0, 0) (fun r hh => wpE 174 590 [some (.ref v0), some (.ref v1), some (.ref v2), some (.int v3)] (r.toList ++ []) hh (110, 9460) Q)) :
    wpE 174 581 [some (.ref v0), some (.ref v1), some (.ref v2), some (.int v3)] [] h (110, 9460) Q :=
  vc_s (ct := fun pc => Nat.beq pc 3 || Nat.beq pc 11 || Nat.beq pc 18 || Nat.beq pc 156 || Nat.beq pc 179 || Nat.beq pc 222 || Nat.beq pc 245 || Nat.beq pc 278 || Nat.beq pc 321 || Nat.beq pc 344 || Nat.beq pc 367 || Nat.beq pc 390 || Nat.beq pc 413 || Nat.beq pc 436 || Nat.beq pc 469 || Nat.beq pc 502 || Nat.beq pc 535 || Nat.beq pc 568 || Nat.beq pc 581 || Nat.beq pc 604 || Nat.beq pc 617 || Nat.beq pc 640 || Nat.beq pc 673 || Nat.beq pc 686 || Nat.beq pc 709 || Nat.beq pc 732 || Nat.beq pc 745 || Nat.beq pc 758 || Nat.beq pc 771 || Nat.beq pc 784 || Nat.beq pc 798) 1000 false (Exists.intro 1 (Exists.intro n1 (And.intro k1 (And.intro B1 (And.intro k2 (And.intro (Nat.le_of_ble_eq_true rfl) (And.intro (Nat.le_of_ble_eq_true rfl) (And.intro (Nat.le_of_ble_eq_true rfl) (And.intro (Nat.le_of_ble_eq_true rfl) H2)))))))))
/-- SnapshotRingsLaw.law from 604 -/
theorem r_L_law_604 {v0 : Nat} {v1 : Nat} {v2 : Nat} {v3 : Int32} {h : sn_H} {Q : Option Value → sn_H → Prop}
    (k1 : hK h v1 = (0, 0, 5))
    (H1 : wpE 61 0 [some (.ref v1)] [] h (0, 0) (fun r hh => wpE 174 608 [some (.ref v0), some (.ref v1), some (.ref v2), some (.int v3)] (r.toList ++ []) hh (110, 9460) Q)) :
    wpE 174 604 [some (.ref v0), some (.ref v1), some (.ref v2), some (.int v3)] [] h (110, 9460) Q :=
  vc_s (ct := fun pc => Nat.beq pc 3 || Nat.beq pc 11 || Nat.beq pc 18 || Nat.beq pc 156 || Nat.beq pc 179 || Nat.beq pc 222 || Nat.beq pc 245 || Nat.beq pc 278 || Nat.beq pc 321 || Nat.beq pc 344 || Nat.beq pc 367 || Nat.beq pc 390 || Nat.beq pc 413 || Nat.beq pc 436 || Nat.beq pc 469 || Nat.beq pc 502 || Nat.beq pc 535 || Nat.beq pc 568 || Nat.beq pc 581 || Nat.beq pc 604 || Nat.beq pc 617 || Nat.beq pc 640 || Nat.beq pc 673 || Nat.beq pc 686 || Nat.beq pc 709 || Nat.beq pc 732 || Nat.beq pc 745 || Nat.beq pc 758 || Nat.beq pc 771 || Nat.beq pc 784 || Nat.beq pc 798) 1000 false (And.intro k1 (And.intro (Nat.le_of_ble_eq_true rfl) (And.intro (Nat.le_of_ble_eq_true rfl) (And.intro (Nat.le_of_ble_eq_true rfl) (And.intro (Nat.le_of_ble_eq_true rfl) H1)))))
/-- SnapshotRingsLaw.law from 617 -/
theorem r_L_law_617 {v0 : Nat} {v1 : Nat} {v2 : Nat} {v3 : Int32} {n1 : Nat} {h : sn_H} {Q : Option Value → sn_H → Prop}
    (k1 : hK h v0 = (1, 1, n1))
    (k2 : hK h v1 = (0, 0, 5))
    (B1 : vp_in (v3 + nI 1) n1)
    (H2 : wpE 63 0 [some (.ref v1), some (.int (hG h v0 (v3 + nI 1).toNatClampNeg))] [] h (0, 0) (fun r hh => wpE 174 626 [some (.ref v0), some (.ref v1), some (.ref v2), some (.int v3)] (r.toList ++ []) hh (110, 9460) Q)) :
    wpE 174 617 [some (.ref v0), some (.ref v1), some (.ref v2), some (.int v3)] [] h (110, 9460) Q :=
  vc_s (ct := fun pc => Nat.beq pc 3 || Nat.beq pc 11 || Nat.beq pc 18 || Nat.beq pc 156 || Nat.beq pc 179 || Nat.beq pc 222 || Nat.beq pc 245 || Nat.beq pc 278 || Nat.beq pc 321 || Nat.beq pc 344 || Nat.beq pc 367 || Nat.beq pc 390 || Nat.beq pc 413 || Nat.beq pc 436 || Nat.beq pc 469 || Nat.beq pc 502 || Nat.beq pc 535 || Nat.beq pc 568 || Nat.beq pc 581 || Nat.beq pc 604 || Nat.beq pc 617 || Nat.beq pc 640 || Nat.beq pc 673 || Nat.beq pc 686 || Nat.beq pc 709 || Nat.beq pc 732 || Nat.beq pc 745 || Nat.beq pc 758 || Nat.beq pc 771 || Nat.beq pc 784 || Nat.beq pc 798) 1000 false (Exists.intro 1 (Exists.intro n1 (And.intro k1 (And.intro B1 (And.intro k2 (And.intro (Nat.le_of_ble_eq_true rfl) (And.intro (Nat.le_of_ble_eq_true rfl) (And.intro (Nat.le_of_ble_eq_true rfl) (And.intro (Nat.le_of_ble_eq_true rfl) H2)))))))))
/-- SnapshotRingsLaw.law from 640 -/
theorem r_L_law_640 {v0 : Nat} {v1 : Nat} {v2 : Nat} {v3 : Int32} {n1 : Nat} {h : sn_H} {Q : Option Value → sn_H → Prop}
    (k1 : hK h v0 = (1, 1, n1))
    (k2 : hK h v1 = (0, 0, 5))
    (B1 : vp_in (v3 + nI 1) n1)
    (B2 : vp_in (v3 + nI 2) n1)
    (H3 : wpE 65 0 [some (.ref v1), some (.int (hG h v0 (v3 + nI 1).toNatClampNeg)), some (.int (hG h v0 (v3 + nI 2).toNatClampNeg)), none] [] h (0, 0) (fun r hh => wpE 174 654 [some (.ref v0), some (.ref v1), some (.ref v2), some (.int v3)] (r.toList ++ []) hh (110, 9460) Q)) :
    wpE 174 640 [some (.ref v0), some (.ref v1), some (.ref v2), some (.int v3)] [] h (110, 9460) Q :=
  vc_s (ct := fun pc => Nat.beq pc 3 || Nat.beq pc 11 || Nat.beq pc 18 || Nat.beq pc 156 || Nat.beq pc 179 || Nat.beq pc 222 || Nat.beq pc 245 || Nat.beq pc 278 || Nat.beq pc 321 || Nat.beq pc 344 || Nat.beq pc 367 || Nat.beq pc 390 || Nat.beq pc 413 || Nat.beq pc 436 || Nat.beq pc 469 || Nat.beq pc 502 || Nat.beq pc 535 || Nat.beq pc 568 || Nat.beq pc 581 || Nat.beq pc 604 || Nat.beq pc 617 || Nat.beq pc 640 || Nat.beq pc 673 || Nat.beq pc 686 || Nat.beq pc 709 || Nat.beq pc 732 || Nat.beq pc 745 || Nat.beq pc 758 || Nat.beq pc 771 || Nat.beq pc 784 || Nat.beq pc 798) 1000 false (Exists.intro 1 (Exists.intro n1 (And.intro k1 (And.intro B1 (Exists.intro 1 (Exists.intro n1 (And.intro k1 (And.intro B2 (And.intro k2 (And.intro (Nat.le_of_ble_eq_true rfl) (And.intro (Nat.le_of_ble_eq_true rfl) (And.intro (Nat.le_of_ble_eq_true rfl) (And.intro (Nat.le_of_ble_eq_true rfl) H3)))))))))))))
/-- SnapshotRingsLaw.law from 673 -/
theorem r_L_law_673 {v0 : Nat} {v1 : Nat} {v2 : Nat} {v3 : Int32} {h : sn_H} {Q : Option Value → sn_H → Prop}
    (k1 : hK h v1 = (0, 0, 5))
    (H1 : wpE 66 0 [some (.ref v1), none, none] [] h (0, 0) (fun r hh => wpE 174 677 [some (.ref v0), some (.ref v1), some (.ref v2), some (.int v3)] (r.toList ++ []) hh (110, 9460) Q)) :
    wpE 174 673 [some (.ref v0), some (.ref v1), some (.ref v2), some (.int v3)] [] h (110, 9460) Q :=
  vc_s (ct := fun pc => Nat.beq pc 3 || Nat.beq pc 11 || Nat.beq pc 18 || Nat.beq pc 156 || Nat.beq pc 179 || Nat.beq pc 222 || Nat.beq pc 245 || Nat.beq pc 278 || Nat.beq pc 321 || Nat.beq pc 344 || Nat.beq pc 367 || Nat.beq pc 390 || Nat.beq pc 413 || Nat.beq pc 436 || Nat.beq pc 469 || Nat.beq pc 502 || Nat.beq pc 535 || Nat.beq pc 568 || Nat.beq pc 581 || Nat.beq pc 604 || Nat.beq pc 617 || Nat.beq pc 640 || Nat.beq pc 673 || Nat.beq pc 686 || Nat.beq pc 709 || Nat.beq pc 732 || Nat.beq pc 745 || Nat.beq pc 758 || Nat.beq pc 771 || Nat.beq pc 784 || Nat.beq pc 798) 1000 false (And.intro k1 (And.intro (Nat.le_of_ble_eq_true rfl) (And.intro (Nat.le_of_ble_eq_true rfl) (And.intro (Nat.le_of_ble_eq_true rfl) (And.intro (Nat.le_of_ble_eq_true rfl) H1)))))
/-- SnapshotRingsLaw.law from 686 -/
theorem r_L_law_686 {v0 : Nat} {v1 : Nat} {v2 : Nat} {v3 : Int32} {n1 : Nat} {h : sn_H} {Q : Option Value → sn_H → Prop}
    (k1 : hK h v0 = (1, 1, n1))
    (k2 : hK h v1 = (0, 0, 5))
    (B1 : vp_in (v3 + nI 1) n1)
    (H2 : wpE 67 0 [some (.ref v1), some (.int (hG h v0 (v3 + nI 1).toNatClampNeg)), none, none] [] h (0, 0) (fun r hh => wpE 174 695 [some (.ref v0), some (.ref v1), some (.ref v2), some (.int v3)] (r.toList ++ []) hh (110, 9460) Q)) :
    wpE 174 686 [some (.ref v0), some (.ref v1), some (.ref v2), some (.int v3)] [] h (110, 9460) Q :=
  vc_s (ct := fun pc => Nat.beq pc 3 || Nat.beq pc 11 || Nat.beq pc 18 || Nat.beq pc 156 || Nat.beq pc 179 || Nat.beq pc 222 || Nat.beq pc 245 || Nat.beq pc 278 || Nat.beq pc 321 || Nat.beq pc 344 || Nat.beq pc 367 || Nat.beq pc 390 || Nat.beq pc 413 || Nat.beq pc 436 || Nat.beq pc 469 || Nat.beq pc 502 || Nat.beq pc 535 || Nat.beq pc 568 || Nat.beq pc 581 || Nat.beq pc 604 || Nat.beq pc 617 || Nat.beq pc 640 || Nat.beq pc 673 || Nat.beq pc 686 || Nat.beq pc 709 || Nat.beq pc 732 || Nat.beq pc 745 || Nat.beq pc 758 || Nat.beq pc 771 || Nat.beq pc 784 || Nat.beq pc 798) 1000 false (Exists.intro 1 (Exists.intro n1 (And.intro k1 (And.intro B1 (And.intro k2 (And.intro (Nat.le_of_ble_eq_true rfl) (And.intro (Nat.le_of_ble_eq_true rfl) (And.intro (Nat.le_of_ble_eq_true rfl) (And.intro (Nat.le_of_ble_eq_true rfl) H2)))))))))
/-- SnapshotRingsLaw.law from 709 -/
theorem r_L_law_709 {v0 : Nat} {v1 : Nat} {v2 : Nat} {v3 : Int32} {n1 : Nat} {h : sn_H} {Q : Option Value → sn_H → Prop}
    (k1 : hK h v0 = (1, 1, n1))
    (k2 : hK h v1 = (0, 0, 5))
    (B1 : vp_in (v3 + nI 1) n1)
    (H2 : wpE 68 0 [some (.ref v1), some (.int (hG h v0 (v3 + nI 1).toNatClampNeg))] [] h (0, 0) (fun r hh => wpE 174 718 [some (.ref v0), some (.ref v1), some (.ref v2), some (.int v3)] (r.toList ++ []) hh (110, 9460) Q)) :
    wpE 174 709 [some (.ref v0), some (.ref v1), some (.ref v2), some (.int v3)] [] h (110, 9460) Q :=
  vc_s (ct := fun pc => Nat.beq pc 3 || Nat.beq pc 11 || Nat.beq pc 18 || Nat.beq pc 156 || Nat.beq pc 179 || Nat.beq pc 222 || Nat.beq pc 245 || Nat.beq pc 278 || Nat.beq pc 321 || Nat.beq pc 344 || Nat.beq pc 367 || Nat.beq pc 390 || Nat.beq pc 413 || Nat.beq pc 436 || Nat.beq pc 469 || Nat.beq pc 502 || Nat.beq pc 535 || Nat.beq pc 568 || Nat.beq pc 581 || Nat.beq pc 604 || Nat.beq pc 617 || Nat.beq pc 640 || Nat.beq pc 673 || Nat.beq pc 686 || Nat.beq pc 709 || Nat.beq pc 732 || Nat.beq pc 745 || Nat.beq pc 758 || Nat.beq pc 771 || Nat.beq pc 784 || Nat.beq pc 798) 1000 false (Exists.intro 1 (Exists.intro n1 (And.intro k1 (And.intro B1 (And.intro k2 (And.intro (Nat.le_of_ble_eq_true rfl) (And.intro (Nat.le_of_ble_eq_true rfl) (And.intro (Nat.le_of_ble_eq_true rfl) (And.intro (Nat.le_of_ble_eq_true rfl) H2)))))))))
/-- SnapshotRingsLaw.law from 732 -/
theorem r_L_law_732 {v0 : Nat} {v1 : Nat} {v2 : Nat} {v3 : Int32} {h : sn_H} {Q : Option Value → sn_H → Prop}
    (k1 : hK h v1 = (0, 0, 5))
    (H1 : wpE 70 0 [some (.ref v1), none] [] h (0, 0) (fun r hh => wpE 174 736 [some (.ref v0), some (.ref v1), some (.ref v2), some (.int v3)] (r.toList ++ []) hh (110, 9460) Q)) :
    wpE 174 732 [some (.ref v0), some (.ref v1), some (.ref v2), some (.int v3)] [] h (110, 9460) Q :=
  vc_s (ct := fun pc => Nat.beq pc 3 || Nat.beq pc 11 || Nat.beq pc 18 || Nat.beq pc 156 || Nat.beq pc 179 || Nat.beq pc 222 || Nat.beq pc 245 || Nat.beq pc 278 || Nat.beq pc 321 || Nat.beq pc 344 || Nat.beq pc 367 || Nat.beq pc 390 || Nat.beq pc 413 || Nat.beq pc 436 || Nat.beq pc 469 || Nat.beq pc 502 || Nat.beq pc 535 || Nat.beq pc 568 || Nat.beq pc 581 || Nat.beq pc 604 || Nat.beq pc 617 || Nat.beq pc 640 || Nat.beq pc 673 || Nat.beq pc 686 || Nat.beq pc 709 || Nat.beq pc 732 || Nat.beq pc 745 || Nat.beq pc 758 || Nat.beq pc 771 || Nat.beq pc 784 || Nat.beq pc 798) 1000 false (And.intro k1 (And.intro (Nat.le_of_ble_eq_true rfl) (And.intro (Nat.le_of_ble_eq_true rfl) (And.intro (Nat.le_of_ble_eq_true rfl) (And.intro (Nat.le_of_ble_eq_true rfl) H1)))))
/-- SnapshotRingsLaw.law from 745 -/
theorem r_L_law_745 {v0 : Nat} {v1 : Nat} {v2 : Nat} {v3 : Int32} {h : sn_H} {Q : Option Value → sn_H → Prop}
    (k1 : hK h v1 = (0, 0, 5))
    (H1 : wpE 71 0 [some (.ref v1)] [] h (0, 0) (fun r hh => wpE 174 749 [some (.ref v0), some (.ref v1), some (.ref v2), some (.int v3)] (r.toList ++ []) hh (110, 9460) Q)) :
    wpE 174 745 [some (.ref v0), some (.ref v1), some (.ref v2), some (.int v3)] [] h (110, 9460) Q :=
  vc_s (ct := fun pc => Nat.beq pc 3 || Nat.beq pc 11 || Nat.beq pc 18 || Nat.beq pc 156 || Nat.beq pc 179 || Nat.beq pc 222 || Nat.beq pc 245 || Nat.beq pc 278 || Nat.beq pc 321 || Nat.beq pc 344 || Nat.beq pc 367 || Nat.beq pc 390 || Nat.beq pc 413 || Nat.beq pc 436 || Nat.beq pc 469 || Nat.beq pc 502 || Nat.beq pc 535 || Nat.beq pc 568 || Nat.beq pc 581 || Nat.beq pc 604 || Nat.beq pc 617 || Nat.beq pc 640 || Nat.beq pc 673 || Nat.beq pc 686 || Nat.beq pc 709 || Nat.beq pc 732 || Nat.beq pc 745 || Nat.beq pc 758 || Nat.beq pc 771 || Nat.beq pc 784 || Nat.beq pc 798) 1000 false (And.intro k1 (And.intro (Nat.le_of_ble_eq_true rfl) (And.intro (Nat.le_of_ble_eq_true rfl) (And.intro (Nat.le_of_ble_eq_true rfl) (And.intro (Nat.le_of_ble_eq_true rfl) H1)))))
/-- SnapshotRingsLaw.law from 758 -/
theorem r_L_law_758 {v0 : Nat} {v1 : Nat} {v2 : Nat} {v3 : Int32} {h : sn_H} {Q : Option Value → sn_H → Prop}
    (k1 : hK h v1 = (0, 0, 5))
    (H1 : wpE 79 0 [some (.ref v1), none, none] [] h (0, 0) (fun r hh => wpE 174 762 [some (.ref v0), some (.ref v1), some (.ref v2), some (.int v3)] (r.toList ++ []) hh (110, 9460) Q)) :
    wpE 174 758 [some (.ref v0), some (.ref v1), some (.ref v2), some (.int v3)] [] h (110, 9460) Q :=
  vc_s (ct := fun pc => Nat.beq pc 3 || Nat.beq pc 11 || Nat.beq pc 18 || Nat.beq pc 156 || Nat.beq pc 179 || Nat.beq pc 222 || Nat.beq pc 245 || Nat.beq pc 278 || Nat.beq pc 321 || Nat.beq pc 344 || Nat.beq pc 367 || Nat.beq pc 390 || Nat.beq pc 413 || Nat.beq pc 436 || Nat.beq pc 469 || Nat.beq pc 502 || Nat.beq pc 535 || Nat.beq pc 568 || Nat.beq pc 581 || Nat.beq pc 604 || Nat.beq pc 617 || Nat.beq pc 640 || Nat.beq pc 673 || Nat.beq pc 686 || Nat.beq pc 709 || Nat.beq pc 732 || Nat.beq pc 745 || Nat.beq pc 758 || Nat.beq pc 771 || Nat.beq pc 784 || Nat.beq pc 798) 1000 false (And.intro k1 (And.intro (Nat.le_of_ble_eq_true rfl) (And.intro (Nat.le_of_ble_eq_true rfl) (And.intro (Nat.le_of_ble_eq_true rfl) (And.intro (Nat.le_of_ble_eq_true rfl) H1)))))
/-- SnapshotRingsLaw.law from 771 -/
theorem r_L_law_771 {v0 : Nat} {v1 : Nat} {v2 : Nat} {v3 : Int32} {h : sn_H} {Q : Option Value → sn_H → Prop}
    (k1 : hK h v1 = (0, 0, 5))
    (H1 : wpE 86 0 [some (.ref v1)] [] h (0, 0) (fun r hh => wpE 174 775 [some (.ref v0), some (.ref v1), some (.ref v2), some (.int v3)] (r.toList ++ []) hh (110, 9460) Q)) :
    wpE 174 771 [some (.ref v0), some (.ref v1), some (.ref v2), some (.int v3)] [] h (110, 9460) Q :=
  vc_s (ct := fun pc => Nat.beq pc 3 || Nat.beq pc 11 || Nat.beq pc 18 || Nat.beq pc 156 || Nat.beq pc 179 || Nat.beq pc 222 || Nat.beq pc 245 || Nat.beq pc 278 || Nat.beq pc 321 || Nat.beq pc 344 || Nat.beq pc 367 || Nat.beq pc 390 || Nat.beq pc 413 || Nat.beq pc 436 || Nat.beq pc 469 || Nat.beq pc 502 || Nat.beq pc 535 || Nat.beq pc 568 || Nat.beq pc 581 || Nat.beq pc 604 || Nat.beq pc 617 || Nat.beq pc 640 || Nat.beq pc 673 || Nat.beq pc 686 || Nat.beq pc 709 || Nat.beq pc 732 || Nat.beq pc 745 || Nat.beq pc 758 || Nat.beq pc 771 || Nat.beq pc 784 || Nat.beq pc 798) 1000 false (And.intro k1 (And.intro (Nat.le_of_ble_eq_true rfl) (And.intro (Nat.le_of_ble_eq_true rfl) (And.intro (Nat.le_of_ble_eq_true rfl) (And.intro (Nat.le_of_ble_eq_true rfl) H1)))))
/-- SnapshotRingsLaw.law from 784 -/
theorem r_L_law_784 {v0 : Nat} {v1 : Nat} {v2 : Nat} {v3 : Int32} {h : sn_H} {Q : Option Value → sn_H → Prop}
    (k1 : hK h v1 = (0, 0, 5))
    (H1 : wpE 88 0 [some (.ref v1), none, none, none] [] h (0, 0) (fun r hh => wpE 174 788 [some (.ref v0), some (.ref v1), some (.ref v2), some (.int v3)] (r.toList ++ []) hh (110, 9460) Q)) :
    wpE 174 784 [some (.ref v0), some (.ref v1), some (.ref v2), some (.int v3)] [] h (110, 9460) Q :=
  vc_s (ct := fun pc => Nat.beq pc 3 || Nat.beq pc 11 || Nat.beq pc 18 || Nat.beq pc 156 || Nat.beq pc 179 || Nat.beq pc 222 || Nat.beq pc 245 || Nat.beq pc 278 || Nat.beq pc 321 || Nat.beq pc 344 || Nat.beq pc 367 || Nat.beq pc 390 || Nat.beq pc 413 || Nat.beq pc 436 || Nat.beq pc 469 || Nat.beq pc 502 || Nat.beq pc 535 || Nat.beq pc 568 || Nat.beq pc 581 || Nat.beq pc 604 || Nat.beq pc 617 || Nat.beq pc 640 || Nat.beq pc 673 || Nat.beq pc 686 || Nat.beq pc 709 || Nat.beq pc 732 || Nat.beq pc 745 || Nat.beq pc 758 || Nat.beq pc 771 || Nat.beq pc 784 || Nat.beq pc 798) 1000 false (And.intro k1 (And.intro (Nat.le_of_ble_eq_true rfl) (And.intro (Nat.le_of_ble_eq_true rfl) (And.intro (Nat.le_of_ble_eq_true rfl) (And.intro (Nat.le_of_ble_eq_true rfl) H1)))))
/-- SnapshotRingsLaw.law from 798 -/
theorem r_L_law_798 {v0 : Nat} {v1 : Nat} {v2 : Nat} {v3 : Int32} {h : sn_H} {Q : Option Value → sn_H → Prop}
    (H1 : wpE 174 18 [some (.ref v0), some (.ref v1), some (.ref v2), some (.int (v3 + nI 4))] [] h (110, 9460) Q) :
    wpE 174 798 [some (.ref v0), some (.ref v1), some (.ref v2), some (.int v3)] [] h (110, 9460) Q :=
  vc_s (ct := fun pc => Nat.beq pc 3 || Nat.beq pc 11 || Nat.beq pc 18 || Nat.beq pc 156 || Nat.beq pc 179 || Nat.beq pc 222 || Nat.beq pc 245 || Nat.beq pc 278 || Nat.beq pc 321 || Nat.beq pc 344 || Nat.beq pc 367 || Nat.beq pc 390 || Nat.beq pc 413 || Nat.beq pc 436 || Nat.beq pc 469 || Nat.beq pc 502 || Nat.beq pc 535 || Nat.beq pc 568 || Nat.beq pc 581 || Nat.beq pc 604 || Nat.beq pc 617 || Nat.beq pc 640 || Nat.beq pc 673 || Nat.beq pc 686 || Nat.beq pc 709 || Nat.beq pc 732 || Nat.beq pc 745 || Nat.beq pc 758 || Nat.beq pc 771 || Nat.beq pc 784 || Nat.beq pc 798) 1000 false (And.intro (Nat.le_of_ble_eq_true rfl) H1)
/-- SnapshotRingsLaw.law from 165 -/
theorem r_L_law_165 {v0 : Nat} {v1 : Nat} {v2 : Nat} {v3 : Int32} {s0 : Int32} {n1 : Nat} {h : sn_H} {Q : Option Value → sn_H → Prop}
    (k1 : hK h v0 = (1, 1, n1))
    (k2 : hK h v2 = (0, 5, 16))
    (B1 : vp_in (v3 + nI 1) n1)
    (H2 : wpE 132 0 [some (.ref v2), some (.int (hG h v0 (v3 + nI 1).toNatClampNeg)), none] [] h (0, 0) (fun r hh => wpE 174 174 [some (.ref v0), some (.ref v1), some (.ref v2), some (.int v3)] (r.toList ++ [.int s0]) hh (110, 9460) Q)) :
    wpE 174 165 [some (.ref v0), some (.ref v1), some (.ref v2), some (.int v3)] [.int s0] h (110, 9460) Q :=
  vc_s (ct := fun pc => Nat.beq pc 3 || Nat.beq pc 11 || Nat.beq pc 18 || Nat.beq pc 156 || Nat.beq pc 179 || Nat.beq pc 222 || Nat.beq pc 245 || Nat.beq pc 278 || Nat.beq pc 321 || Nat.beq pc 344 || Nat.beq pc 367 || Nat.beq pc 390 || Nat.beq pc 413 || Nat.beq pc 436 || Nat.beq pc 469 || Nat.beq pc 502 || Nat.beq pc 535 || Nat.beq pc 568 || Nat.beq pc 581 || Nat.beq pc 604 || Nat.beq pc 617 || Nat.beq pc 640 || Nat.beq pc 673 || Nat.beq pc 686 || Nat.beq pc 709 || Nat.beq pc 732 || Nat.beq pc 745 || Nat.beq pc 758 || Nat.beq pc 771 || Nat.beq pc 784 || Nat.beq pc 798) 1000 false (Exists.intro 1 (Exists.intro n1 (And.intro k1 (And.intro B1 (And.intro k2 (And.intro (Nat.le_of_ble_eq_true rfl) (And.intro (Nat.le_of_ble_eq_true rfl) (And.intro (Nat.le_of_ble_eq_true rfl) (And.intro (Nat.le_of_ble_eq_true rfl) H2)))))))))
/-- SnapshotRingsLaw.law from 198 -/
theorem r_L_law_198 {v0 : Nat} {v1 : Nat} {v2 : Nat} {v3 : Int32} {s0 : Int32} {n1 : Nat} {h : sn_H} {Q : Option Value → sn_H → Prop}
    (k1 : hK h v0 = (1, 1, n1))
    (k2 : hK h v2 = (0, 5, 16))
    (B1 : vp_in (v3 + nI 1) n1)
    (B2 : vp_in (v3 + nI 2) n1)
    (B3 : vp_in (v3 + nI 3) n1)
    (H4 : wpE 133 0 [some (.ref v2), some (.int (hG h v0 (v3 + nI 1).toNatClampNeg)), some (.int (hG h v0 (v3 + nI 2).toNatClampNeg)), some (.int (hG h v0 (v3 + nI 3).toNatClampNeg)), none] [] h (0, 0) (fun r hh => wpE 174 217 [some (.ref v0), some (.ref v1), some (.ref v2), some (.int v3)] (r.toList ++ [.int s0]) hh (110, 9460) Q)) :
    wpE 174 198 [some (.ref v0), some (.ref v1), some (.ref v2), some (.int v3)] [.int s0] h (110, 9460) Q :=
  vc_s (ct := fun pc => Nat.beq pc 3 || Nat.beq pc 11 || Nat.beq pc 18 || Nat.beq pc 156 || Nat.beq pc 179 || Nat.beq pc 222 || Nat.beq pc 245 || Nat.beq pc 278 || Nat.beq pc 321 || Nat.beq pc 344 || Nat.beq pc 367 || Nat.beq pc 390 || Nat.beq pc 413 || Nat.beq pc 436 || Nat.beq pc 469 || Nat.beq pc 502 || Nat.beq pc 535 || Nat.beq pc 568 || Nat.beq pc 581 || Nat.beq pc 604 || Nat.beq pc 617 || Nat.beq pc 640 || Nat.beq pc 673 || Nat.beq pc 686 || Nat.beq pc 709 || Nat.beq pc 732 || Nat.beq pc 745 || Nat.beq pc 758 || Nat.beq pc 771 || Nat.beq pc 784 || Nat.beq pc 798) 1000 false (Exists.intro 1 (Exists.intro n1 (And.intro k1 (And.intro B1 (Exists.intro 1 (Exists.intro n1 (And.intro k1 (And.intro B2 (Exists.intro 1 (Exists.intro n1 (And.intro k1 (And.intro B3 (And.intro k2 (And.intro (Nat.le_of_ble_eq_true rfl) (And.intro (Nat.le_of_ble_eq_true rfl) (And.intro (Nat.le_of_ble_eq_true rfl) (And.intro (Nat.le_of_ble_eq_true rfl) H4)))))))))))))))))
/-- SnapshotRingsLaw.law from 231 -/
theorem r_L_law_231 {v0 : Nat} {v1 : Nat} {v2 : Nat} {v3 : Int32} {s0 : Int32} {n1 : Nat} {h : sn_H} {Q : Option Value → sn_H → Prop}
    (k1 : hK h v0 = (1, 1, n1))
    (k2 : hK h v2 = (0, 5, 16))
    (B1 : vp_in (v3 + nI 1) n1)
    (H2 : wpE 94 0 [some (.ref v2), some (.int (hG h v0 (v3 + nI 1).toNatClampNeg)), none] [] h (0, 0) (fun r hh => wpE 174 240 [some (.ref v0), some (.ref v1), some (.ref v2), some (.int v3)] (r.toList ++ [.int s0]) hh (110, 9460) Q)) :
    wpE 174 231 [some (.ref v0), some (.ref v1), some (.ref v2), some (.int v3)] [.int s0] h (110, 9460) Q :=
  vc_s (ct := fun pc => Nat.beq pc 3 || Nat.beq pc 11 || Nat.beq pc 18 || Nat.beq pc 156 || Nat.beq pc 179 || Nat.beq pc 222 || Nat.beq pc 245 || Nat.beq pc 278 || Nat.beq pc 321 || Nat.beq pc 344 || Nat.beq pc 367 || Nat.beq pc 390 || Nat.beq pc 413 || Nat.beq pc 436 || Nat.beq pc 469 || Nat.beq pc 502 || Nat.beq pc 535 || Nat.beq pc 568 || Nat.beq pc 581 || Nat.beq pc 604 || Nat.beq pc 617 || Nat.beq pc 640 || Nat.beq pc 673 || Nat.beq pc 686 || Nat.beq pc 709 || Nat.beq pc 732 || Nat.beq pc 745 || Nat.beq pc 758 || Nat.beq pc 771 || Nat.beq pc 784 || Nat.beq pc 798) 1000 false (Exists.intro 1 (Exists.intro n1 (And.intro k1 (And.intro B1 (And.intro k2 (And.intro (Nat.le_of_ble_eq_true rfl) (And.intro (Nat.le_of_ble_eq_true rfl) (And.intro (Nat.le_of_ble_eq_true rfl) (And.intro (Nat.le_of_ble_eq_true rfl) H2)))))))))
/-- SnapshotRingsLaw.law from 259 -/
theorem r_L_law_259 {v0 : Nat} {v1 : Nat} {v2 : Nat} {v3 : Int32} {s0 : Int32} {n1 : Nat} {h : sn_H} {Q : Option Value → sn_H → Prop}
    (k1 : hK h v0 = (1, 1, n1))
    (k2 : hK h v2 = (0, 5, 16))
    (B1 : vp_in (v3 + nI 1) n1)
    (B2 : vp_in (v3 + nI 2) n1)
    (H3 : wpE 105 0 [some (.ref v2), some (.int (hG h v0 (v3 + nI 1).toNatClampNeg)), some (.int (hG h v0 (v3 + nI 2).toNatClampNeg)), none] [] h (0, 0) (fun r hh => wpE 174 273 [some (.ref v0), some (.ref v1), some (.ref v2), some (.int v3)] (r.toList ++ [.int s0]) hh (110, 9460) Q)) :
    wpE 174 259 [some (.ref v0), some (.ref v1), some (.ref v2), some (.int v3)] [.int s0] h (110, 9460) Q :=
  vc_s (ct := fun pc => Nat.beq pc 3 || Nat.beq pc 11 || Nat.beq pc 18 || Nat.beq pc 156 || Nat.beq pc 179 || Nat.beq pc 222 || Nat.beq pc 245 || Nat.beq pc 278 || Nat.beq pc 321 || Nat.beq pc 344 || Nat.beq pc 367 || Nat.beq pc 390 || Nat.beq pc 413 || Nat.beq pc 436 || Nat.beq pc 469 || Nat.beq pc 502 || Nat.beq pc 535 || Nat.beq pc 568 || Nat.beq pc 581 || Nat.beq pc 604 || Nat.beq pc 617 || Nat.beq pc 640 || Nat.beq pc 673 || Nat.beq pc 686 || Nat.beq pc 709 || Nat.beq pc 732 || Nat.beq pc 745 || Nat.beq pc 758 || Nat.beq pc 771 || Nat.beq pc 784 || Nat.beq pc 798) 1000 false (Exists.intro 1 (Exists.intro n1 (And.intro k1 (And.intro B1 (Exists.intro 1 (Exists.intro n1 (And.intro k1 (And.intro B2 (And.intro k2 (And.intro (Nat.le_of_ble_eq_true rfl) (And.intro (Nat.le_of_ble_eq_true rfl) (And.intro (Nat.le_of_ble_eq_true rfl) (And.intro (Nat.le_of_ble_eq_true rfl) H3)))))))))))))
/-- SnapshotRingsLaw.law from 297 -/
theorem r_L_law_297 {v0 : Nat} {v1 : Nat} {v2 : Nat} {v3 : Int32} {s0 : Int32} {n1 : Nat} {h : sn_H} {Q : Option Value → sn_H → Prop}
    (k1 : hK h v0 = (1, 1, n1))
    (k2 : hK h v2 = (0, 5, 16))
    (B1 : vp_in (v3 + nI 1) n1)
    (B2 : vp_in (v3 + nI 2) n1)
    (B3 : vp_in (v3 + nI 3) n1)
    (H4 : wpE 109 0 [some (.ref v2), some (.int (hG h v0 (v3 + nI 1).toNatClampNeg)), some (.int (hG h v0 (v3 + nI 2).toNatClampNeg)), some (.int (hG h v0 (v3 + nI 3).toNatClampNeg)), none] [] h (0, 0) (fun r hh => wpE 174 316 [some (.ref v0), some (.ref v1), some (.ref v2), some (.int v3)] (r.toList ++ [.int s0]) hh (110, 9460) Q)) :
    wpE 174 297 [some (.ref v0), some (.ref v1), some (.ref v2), some (.int v3)] [.int s0] h (110, 9460) Q :=
  vc_s (ct := fun pc => Nat.beq pc 3 || Nat.beq pc 11 || Nat.beq pc 18 || Nat.beq pc 156 || Nat.beq pc 179 || Nat.beq pc 222 || Nat.beq pc 245 || Nat.beq pc 278 || Nat.beq pc 321 || Nat.beq pc 344 || Nat.beq pc 367 || Nat.beq pc 390 || Nat.beq pc 413 || Nat.beq pc 436 || Nat.beq pc 469 || Nat.beq pc 502 || Nat.beq pc 535 || Nat.beq pc 568 || Nat.beq pc 581 || Nat.beq pc 604 || Nat.beq pc 617 || Nat.beq pc 640 || Nat.beq pc 673 || Nat.beq pc 686 || Nat.beq pc 709 || Nat.beq pc 732 || Nat.beq pc 745 || Nat.beq pc 758 || Nat.beq pc 771 || Nat.beq pc 784 || Nat.beq pc 798) 1000 false (Exists.intro 1 (Exists.intro n1 (And.intro k1 (And.intro B1 (Exists.intro 1 (Exists.intro n1 (And.intro k1 (And.intro B2 (Exists.intro 1 (Exists.intro n1 (And.intro k1 (And.intro B3 (And.intro k2 (And.intro (Nat.le_of_ble_eq_true rfl) (And.intro (Nat.le_of_ble_eq_true rfl) (And.intro (Nat.le_of_ble_eq_true rfl) (And.intro (Nat.le_of_ble_eq_true rfl) H4)))))))))))))))))
/-- SnapshotRingsLaw.law from 330 -/
theorem r_L_law_330 {v0 : Nat} {v1 : Nat} {v2 : Nat} {v3 : Int32} {s0 : Int32} {n1 : Nat} {h : sn_H} {Q : Option Value → sn_H → Prop}
    (k1 : hK h v0 = (1, 1, n1))
    (k2 : hK h v2 = (0, 5, 16))
    (B1 : vp_in (v3 + nI 1) n1)
    (H2 : wpE 113 0 [some (.ref v2), some (.int (hG h v0 (v3 + nI 1).toNatClampNeg)), none] [] h (0, 0) (fun r hh => wpE 174 339 [some (.ref v0), some (.ref v1), some (.ref v2), some (.int v3)] (r.toList ++ [.int s0]) hh (110, 9460) Q)) :
    wpE 174 330 [some (.ref v0), some (.ref v1), some (.ref v2), some (.int v3)] [.int s0] h (110, 9460) Q :=
  vc_s (ct := fun pc => Nat.beq pc 3 || Nat.beq pc 11 || Nat.beq pc 18 || Nat.beq pc 156 || Nat.beq pc 179 || Nat.beq pc 222 || Nat.beq pc 245 || Nat.beq pc 278 || Nat.beq pc 321 || Nat.beq pc 344 || Nat.beq pc 367 || Nat.beq pc 390 || Nat.beq pc 413 || Nat.beq pc 436 || Nat.beq pc 469 || Nat.beq pc 502 || Nat.beq pc 535 || Nat.beq pc 568 || Nat.beq pc 581 || Nat.beq pc 604 || Nat.beq pc 617 || Nat.beq pc 640 || Nat.beq pc 673 || Nat.beq pc 686 || Nat.beq pc 709 || Nat.beq pc 732 || Nat.beq pc 745 || Nat.beq pc 758 || Nat.beq pc 771 || Nat.beq pc 784 || Nat.beq pc 798) 1000 false (Exists.intro 1 (Exists.intro n1 (And.intro k1 (And.intro B1 (And.intro k2 (And.intro (Nat.le_of_ble_eq_true rfl) (And.intro (Nat.le_of_ble_eq_true rfl) (And.intro (Nat.le_of_ble_eq_true rfl) (And.intro (Nat.le_of_ble_eq_true rfl) H2)))))))))
/-- SnapshotRingsLaw.law from 353 -/
theorem r_L_law_353 {v0 : Nat} {v1 : Nat} {v2 : Nat} {v3 : Int32} {s0 : Int32} {n1 : Nat} {h : sn_H} {Q : Option Value → sn_H → Prop}
    (k1 : hK h v0 = (1, 1, n1))
    (k2 : hK h v2 = (0, 5, 16))
    (B1 : vp_in (v3 + nI 1) n1)
    (H2 : wpE 130 0 [some (.ref v2), some (.int (hG h v0 (v3 + nI 1).toNatClampNeg)), none] [] h (0, 0) (fun r hh => wpE 174 362 [some (.ref v0), some (.ref v1), some (.ref v2), some (.int v3)] (r.toList ++ [.int s0]) hh (110, 9460) Q)) :
    wpE 174 353 [some (.ref v0), some (.ref v1), some (.ref v2), some (.int v3)] [.int s0] h (110, 9460) Q :=
  vc_s (ct := fun pc => Nat.beq pc 3 || Nat.beq pc 11 || Nat.beq pc 18 || Nat.beq pc 156 || Nat.beq pc 179 || Nat.beq pc 222 || Nat.beq pc 245 || Nat.beq pc 278 || Nat.beq pc 321 || Nat.beq pc 344 || Nat.beq pc 367 || Nat.beq pc 390 || Nat.beq pc 413 || Nat.beq pc 436 || Nat.beq pc 469 || Nat.beq pc 502 || Nat.beq pc 535 || Nat.beq pc 568 || Nat.beq pc 581 || Nat.beq pc 604 || Nat.beq pc 617 || Nat.beq pc 640 || Nat.beq pc 673 || Nat.beq pc 686 || Nat.beq pc 709 || Nat.beq pc 732 || Nat.beq pc 745 || Nat.beq pc 758 || Nat.beq pc 771 || Nat.beq pc 784 || Nat.beq pc 798) 1000 false (Exists.intro 1 (Exists.intro n1 (And.intro k1 (And.intro B1 (And.intro k2 (And.intro (Nat.le_of_ble_eq_true rfl) (And.intro (Nat.le_of_ble_eq_true rfl) (And.intro (Nat.le_of_ble_eq_true rfl) (And.intro (Nat.le_of_ble_eq_true rfl) H2)))))))))
/-- SnapshotRingsLaw.law from 376 -/
theorem r_L_law_376 {v0 : Nat} {v1 : Nat} {v2 : Nat} {v3 : Int32} {s0 : Int32} {n1 : Nat} {h : sn_H} {Q : Option Value → sn_H → Prop}
    (k1 : hK h v0 = (1, 1, n1))
    (k2 : hK h v2 = (0, 5, 16))
    (B1 : vp_in (v3 + nI 1) n1)
    (H2 : wpE 135 0 [some (.ref v2), some (.int (hG h v0 (v3 + nI 1).toNatClampNeg))] [] h (0, 0) (fun r hh => wpE 174 385 [some (.ref v0), some (.ref v1), some (.ref v2), some (.int v3)] (r.toList ++ [.int s0]) hh (110, 9460) Q)) :
    wpE 174 376 [some (.ref v0), some (.ref v1), some (.ref v2), some (.int v3)] [.int s0] h (110, 9460) Q :=
  vc_s (ct := fun pc => Nat.beq pc 3 || Nat.beq pc 11 || Nat.beq pc 18 || Nat.beq pc 156 || Nat.beq pc 179 || Nat.beq pc 222 || Nat.beq pc 245 || Nat.beq pc 278 || Nat.beq pc 321 || Nat.beq pc 344 || Nat.beq pc 367 || Nat.beq pc 390 || Nat.beq pc 413 || Nat.beq pc 436 || Nat.beq pc 469 || Nat.beq pc 502 || Nat.beq pc 535 || Nat.beq pc 568 || Nat.beq pc 581 || Nat.beq pc 604 || Nat.beq pc 617 || Nat.beq pc 640 || Nat.beq pc 673 || Nat.beq pc 686 || Nat.beq pc 709 || Nat.beq pc 732 || Nat.beq pc 745 || Nat.beq pc 758 || Nat.beq pc 771 || Nat.beq pc 784 || Nat.beq pc 798) 1000 false (Exists.intro 1 (Exists.intro n1 (And.intro k1 (And.intro B1 (And.intro k2 (And.intro (Nat.le_of_ble_eq_true rfl) (And.intro (Nat.le_of_ble_eq_true rfl) (And.intro (Nat.le_of_ble_eq_true rfl) (And.intro (Nat.le_of_ble_eq_true rfl) H2)))))))))
/-- SnapshotRingsLaw.law from 399 -/
theorem r_L_law_399 {v0 : Nat} {v1 : Nat} {v2 : Nat} {v3 : Int32} {s0 : Int32} {n1 : Nat} {h : sn_H} {Q : Option Value → sn_H → Prop}
    (k1 : hK h v0 = (1, 1, n1))
    (k2 : hK h v2 = (0, 5, 16))
    (B1 : vp_in (v3 + nI 1) n1)
    (H2 : wpE 138 0 [some (.ref v2), some (.int (hG h v0 (v3 + nI 1).toNatClampNeg))] [] h (0, 0) (fun r hh => wpE 174 408 [some (.ref v0), some (.ref v1), some (.ref v2), some (.int v3)] (r.toList ++ [.int s0]) hh (110, 9460) Q)) :
    wpE 174 399 [some (.ref v0), some (.ref v1), some (.ref v2), some (.int v3)] [.int s0] h (110, 9460) Q :=
  vc_s (ct := fun pc => Nat.beq pc 3 || Nat.beq pc 11 || Nat.beq pc 18 || Nat.beq pc 156 || Nat.beq pc 179 || Nat.beq pc 222 || Nat.beq pc 245 || Nat.beq pc 278 || Nat.beq pc 321 || Nat.beq pc 344 || Nat.beq pc 367 || Nat.beq pc 390 || Nat.beq pc 413 || Nat.beq pc 436 || Nat.beq pc 469 || Nat.beq pc 502 || Nat.beq pc 535 || Nat.beq pc 568 || Nat.beq pc 581 || Nat.beq pc 604 || Nat.beq pc 617 || Nat.beq pc 640 || Nat.beq pc 673 || Nat.beq pc 686 || Nat.beq pc 709 || Nat.beq pc 732 || Nat.beq pc 745 || Nat.beq pc 758 || Nat.beq pc 771 || Nat.beq pc 784 || Nat.beq pc 798) 1000 false (Exists.intro 1 (Exists.intro n1 (And.intro k1 (And.intro B1 (And.intro k2 (And.intro (Nat.le_of_ble_eq_true rfl) (And.intro (Nat.le_of_ble_eq_true rfl) (And.intro (Nat.le_of_ble_eq_true rfl) (And.intro (Nat.le_of_ble_eq_true rfl) H2)))))))))
/-- SnapshotRingsLaw.law from 422 -/
theorem r_L_law_422 {v0 : Nat} {v1 : Nat} {v2 : Nat} {v3 : Int32} {s0 : Int32} {n1 : Nat} {h : sn_H} {Q : Option Value → sn_H → Prop}
    (k1 : hK h v0 = (1, 1, n1))
    (k2 : hK h v2 = (0, 5, 16))
    (B1 : vp_in (v3 + nI 1) n1)
    (H2 : wpE 139 0 [some (.ref v2), some (.int (hG h v0 (v3 + nI 1).toNatClampNeg))] [] h (0, 0) (fun r hh => wpE 174 431 [some (.ref v0), some (.ref v1), some (.ref v2), some (.int v3)] (r.toList ++ [.int s0]) hh (110, 9460) Q)) :
    wpE 174 422 [some (.ref v0), some (.ref v1), some (.ref v2), some (.int v3)] [.int s0] h (110, 9460) Q :=
  vc_s (ct := fun pc => Nat.beq pc 3 || Nat.beq pc 11 || Nat.beq pc 18 || Nat.beq pc 156 || Nat.beq pc 179 || Nat.beq pc 222 || Nat.beq pc 245 || Nat.beq pc 278 || Nat.beq pc 321 || Nat.beq pc 344 || Nat.beq pc 367 || Nat.beq pc 390 || Nat.beq pc 413 || Nat.beq pc 436 || Nat.beq pc 469 || Nat.beq pc 502 || Nat.beq pc 535 || Nat.beq pc 568 || Nat.beq pc 581 || Nat.beq pc 604 || Nat.beq pc 617 || Nat.beq pc 640 || Nat.beq pc 673 || Nat.beq pc 686 || Nat.beq pc 709 || Nat.beq pc 732 || Nat.beq pc 745 || Nat.beq pc 758 || Nat.beq pc 771 || Nat.beq pc 784 || Nat.beq pc 798) 1000 false (Exists.intro 1 (Exists.intro n1 (And.intro k1 (And.intro B1 (And.intro k2 (And.intro (Nat.le_of_ble_eq_true rfl) (And.intro (Nat.le_of_ble_eq_true rfl) (And.intro (Nat.le_of_ble_eq_true rfl) (And.intro (Nat.le_of_ble_eq_true rfl) H2)))))))))
/-- SnapshotRingsLaw.law from 450 -/
theorem r_L_law_450 {v0 : Nat} {v1 : Nat} {v2 : Nat} {v3 : Int32} {s0 : Int32} {n1 : Nat} {h : sn_H} {Q : Option Value → sn_H → Prop}
    (k1 : hK h v0 = (1, 1, n1))
    (k2 : hK h v2 = (0, 5, 16))
    (B1 : vp_in (v3 + nI 1) n1)
    (B2 : vp_in (v3 + nI 2) n1)
    (H3 : wpE 140 0 [some (.ref v2), some (.int (hG h v0 (v3 + nI 1).toNatClampNeg)), some (.int (hG h v0 (v3 + nI 2).toNatClampNeg))] [] h (0, 0) (fun r hh => wpE 174 464 [some (.ref v0), some (.ref v1), some (.ref v2), some (.int v3)] (r.toList ++ [.int s0]) hh (110, 9460) Q)) :
    wpE 174 450 [some (.ref v0), some (.ref v1), some (.ref v2), some (.int v3)] [.int s0] h (110, 9460) Q :=
  vc_s (ct := fun pc => Nat.beq pc 3 || Nat.beq pc 11 || Nat.beq pc 18 || Nat.beq pc 156 || Nat.beq pc 179 || Nat.beq pc 222 || Nat.beq pc 245 || Nat.beq pc 278 || Nat.beq pc 321 || Nat.beq pc 344 || Nat.beq pc 367 || Nat.beq pc 390 || Nat.beq pc 413 || Nat.beq pc 436 || Nat.beq pc 469 || Nat.beq pc 502 || Nat.beq pc 535 || Nat.beq pc 568 || Nat.beq pc 581 || Nat.beq pc 604 || Nat.beq pc 617 || Nat.beq pc 640 || Nat.beq pc 673 || Nat.beq pc 686 || Nat.beq pc 709 || Nat.beq pc 732 || Nat.beq pc 745 || Nat.beq pc 758 || Nat.beq pc 771 || Nat.beq pc 784 || Nat.beq pc 798) 1000 false (Exists.intro 1 (Exists.intro n1 (And.intro k1 (And.intro B1 (Exists.intro 1 (Exists.intro n1 (And.intro k1 (And.intro B2 (And.intro k2 (And.intro (Nat.le_of_ble_eq_true rfl) (And.intro (Nat.le_of_ble_eq_true rfl) (And.intro (Nat.le_of_ble_eq_true rfl) (And.intro (Nat.le_of_ble_eq_true rfl) H3)))))))))))))
/-- SnapshotRingsLaw.law from 483 -/
theorem r_L_law_483 {v0 : Nat} {v1 : Nat} {v2 : Nat} {v3 : Int32} {s0 : Int32} {n1 : Nat} {h : sn_H} {Q : Option Value → sn_H → Prop}
    (k1 : hK h v0 = (1, 1, n1))
    (k2 : hK h v2 = (0, 5, 16))
    (B1 : vp_in (v3 + nI 1) n1)
    (B2 : vp_in (v3 + nI 2) n1)
    (H3 : wpE 142 0 [some (.ref v2), some (.int (hG h v0 (v3 + nI 1).toNatClampNeg)), some (.int (hG h v0 (v3 + nI 2).toNatClampNeg))] [] h (0, 0) (fun r hh => wpE 174 497 [some (.ref v0), some (.ref v1), some (.ref v2), some (.int v3)] (r.toList ++ [.int s0]) hh (110, 9460) Q)) :
    wpE 174 483 [some (.ref v0), some (.ref v1), some (.ref v2), some (.int v3)] [.int s0] h (110, 9460) Q :=
  vc_s (ct := fun pc => Nat.beq pc 3 || Nat.beq pc 11 || Nat.beq pc 18 || Nat.beq pc 156 || Nat.beq pc 179 || Nat.beq pc 222 || Nat.beq pc 245 || Nat.beq pc 278 || Nat.beq pc 321 || Nat.beq pc 344 || Nat.beq pc 367 || Nat.beq pc 390 || Nat.beq pc 413 || Nat.beq pc 436 || Nat.beq pc 469 || Nat.beq pc 502 || Nat.beq pc 535 || Nat.beq pc 568 || Nat.beq pc 581 || Nat.beq pc 604 || Nat.beq pc 617 || Nat.beq pc 640 || Nat.beq pc 673 || Nat.beq pc 686 || Nat.beq pc 709 || Nat.beq pc 732 || Nat.beq pc 745 || Nat.beq pc 758 || Nat.beq pc 771 || Nat.beq pc 784 || Nat.beq pc 798) 1000 false (Exists.intro 1 (Exists.intro n1 (And.intro k1 (And.intro B1 (Exists.intro 1 (Exists.intro n1 (And.intro k1 (And.intro B2 (And.intro k2 (And.intro (Nat.le_of_ble_eq_true rfl) (And.intro (Nat.le_of_ble_eq_true rfl) (And.intro (Nat.le_of_ble_eq_true rfl) (And.intro (Nat.le_of_ble_eq_true rfl) H3)))))))))))))
/-- SnapshotRingsLaw.law from 516 -/
theorem r_L_law_516 {v0 : Nat} {v1 : Nat} {v2 : Nat} {v3 : Int32} {s0 : Int32} {n1 : Nat} {h : sn_H} {Q : Option Value → sn_H → Prop}
    (k1 : hK h v0 = (1, 1, n1))
    (k2 : hK h v2 = (0, 5, 16))
    (B1 : vp_in (v3 + nI 1) n1)
    (B2 : vp_in (v3 + nI 2) n1)
    (H3 : wpE 144 0 [some (.ref v2), some (.int (hG h v0 (v3 + nI 1).toNatClampNeg)), some (.int (hG h v0 (v3 + nI 2).toNatClampNeg))] [] h (0, 0) (fun r hh => wpE 174 530 [some (.ref v0), some (.ref v1), some (.ref v2), some (.int v3)] (r.toList ++ [.int s0]) hh (110, 9460) Q)) :
    wpE 174 516 [some (.ref v0), some (.ref v1), some (.ref v2), some (.int v3)] [.int s0] h (110, 9460) Q :=
  vc_s (ct := fun pc => Nat.beq pc 3 || Nat.beq pc 11 || Nat.beq pc 18 || Nat.beq pc 156 || Nat.beq pc 179 || Nat.beq pc 222 || Nat.beq pc 245 || Nat.beq pc 278 || Nat.beq pc 321 || Nat.beq pc 344 || Nat.beq pc 367 || Nat.beq pc 390 || Nat.beq pc 413 || Nat.beq pc 436 || Nat.beq pc 469 || Nat.beq pc 502 || Nat.beq pc 535 || Nat.beq pc 568 || Nat.beq pc 581 || Nat.beq pc 604 || Nat.beq pc 617 || Nat.beq pc 640 || Nat.beq pc 673 || Nat.beq pc 686 || Nat.beq pc 709 || Nat.beq pc 732 || Nat.beq pc 745 || Nat.beq pc 758 || Nat.beq pc 771 || Nat.beq pc 784 || Nat.beq pc 798) 1000 false (Exists.intro 1 (Exists.intro n1 (And.intro k1 (And.intro B1 (Exists.intro 1 (Exists.intro n1 (And.intro k1 (And.intro B2 (And.intro k2 (And.intro (Nat.le_of_ble_eq_true rfl) (And.intro (Nat.le_of_ble_eq_true rfl) (And.intro (Nat.le_of_ble_eq_true rfl) (And.intro (Nat.le_of_ble_eq_true rfl) H3)))))))))))))
/-- SnapshotRingsLaw.law from 549 -/
theorem r_L_law_549 {v0 : Nat} {v1 : Nat} {v2 : Nat} {v3 : Int32} {s0 : Int32} {n1 : Nat} {h : sn_H} {Q : Option Value → sn_H → Prop}
    (k1 : hK h v0 = (1, 1, n1))
    (k2 : hK h v2 = (0, 5, 16))
    (B1 : vp_in (v3 + nI 1) n1)
    (B2 : vp_in (v3 + nI 2) n1)
    (H3 : wpE 145 0 [some (.ref v2), some (.int (hG h v0 (v3 + nI 1).toNatClampNeg)), some (.int (hG h v0 (v3 + nI 2).toNatClampNeg)), none, none] [] h (0, 0) (fun r hh => wpE 174 563 [some (.ref v0), some (.ref v1), some (.ref v2), some (.int v3)] (r.toList ++ [.int s0]) hh (110, 9460) Q)) :
    wpE 174 549 [some (.ref v0), some (.ref v1), some (.ref v2), some (.int v3)] [.int s0] h (110, 9460) Q :=
  vc_s (ct := fun pc => Nat.beq pc 3 || Nat.beq pc 11 || Nat.beq pc 18 || Nat.beq pc 156 || Nat.beq pc 179 || Nat.beq pc 222 || Nat.beq pc 245 || Nat.beq pc 278 || Nat.beq pc 321 || Nat.beq pc 344 || Nat.beq pc 367 || Nat.beq pc 390 || Nat.beq pc 413 || Nat.beq pc 436 || Nat.beq pc 469 || Nat.beq pc 502 || Nat.beq pc 535 || Nat.beq pc 568 || Nat.beq pc 581 || Nat.beq pc 604 || Nat.beq pc 617 || Nat.beq pc 640 || Nat.beq pc 673 || Nat.beq pc 686 || Nat.beq pc 709 || Nat.beq pc 732 || Nat.beq pc 745 || Nat.beq pc 758 || Nat.beq pc 771 || Nat.beq pc 784 || Nat.beq pc 798) 1000 false (Exists.intro 1 (Exists.intro n1 (And.intro k1 (And.intro B1 (Exists.intro 1 (Exists.intro n1 (And.intro k1 (And.intro B2 (And.intro k2 (And.intro (Nat.le_of_ble_eq_true rfl) (And.intro (Nat.le_of_ble_eq_true rfl) (And.intro (Nat.le_of_ble_eq_true rfl) (And.intro (Nat.le_of_ble_eq_true rfl) H3)))))))))))))
/-- SnapshotRingsLaw.law from 572 -/
theorem r_L_law_572 {v0 : Nat} {v1 : Nat} {v2 : Nat} {v3 : Int32} {s0 : Int32} {h : sn_H} {Q : Option Value → sn_H → Prop}
    (k1 : hK h v2 = (0, 5, 16))
    (H1 : wpE 146 0 [some (.ref v2)] [] h (0, 0) (fun r hh => wpE 174 576 [some (.ref v0), some (.ref v1), some (.ref v2), some (.int v3)] (r.toList ++ [.int s0]) hh (110, 9460) Q)) :
    wpE 174 572 [some (.ref v0), some (.ref v1), some (.ref v2), some (.int v3)] [.int s0] h (110, 9460) Q :=
  vc_s (ct := fun pc => Nat.beq pc 3 || Nat.beq pc 11 || Nat.beq pc 18 || Nat.beq pc 156 || Nat.beq pc 179 || Nat.beq pc 222 || Nat.beq pc 245 || Nat.beq pc 278 || Nat.beq pc 321 || Nat.beq pc 344 || Nat.beq pc 367 || Nat.beq pc 390 || Nat.beq pc 413 || Nat.beq pc 436 || Nat.beq pc 469 || Nat.beq pc 502 || Nat.beq pc 535 || Nat.beq pc 568 || Nat.beq pc 581 || Nat.beq pc 604 || Nat.beq pc 617 || Nat.beq pc 640 || Nat.beq pc 673 || Nat.beq pc 686 || Nat.beq pc 709 || Nat.beq pc 732 || Nat.beq pc 745 || Nat.beq pc 758 || Nat.beq pc 771 || Nat.beq pc 784 || Nat.beq pc 798) 1000 false (And.intro k1 (And.intro (Nat.le_of_ble_eq_true rfl) (And.intro (Nat.le_of_ble_eq_true rfl) (And.intro (Nat.le_of_ble_eq_true rfl) (And.intro (Nat.le_of_ble_eq_true rfl) H1)))))
/-- SnapshotRingsLaw.law from 590 -/
theorem r_L_law_590 {v0 : Nat} {v1 : Nat} {v2 : Nat} {v3 : Int32} {s0 : Int32} {n1 : Nat} {h : sn_H} {Q : Option Value → sn_H → Prop}
    (k1 : hK h v0 = (1, 1, n1))
    (k2 : hK h v2 = (0, 5, 16))
    (B1 : vp_in (v3 + nI 1) n1)
    (H2 : wpE 149 0 [some (.ref v2), some (.int (hG h v0 (v3 + nI 1).toNatClampNeg))] [] h (0, 0) (fun r hh => wpE 174 599 [some (.ref v0), some (.ref v1), some (.ref v2), some (.int v3)] (r.toList ++ [.int s0]) hh (110, 9460) Q)) :
    wpE 174 590 [some (.ref v0), some (.ref v1), some (.ref v2), some (.int v3)] [.int s0] h (110, 9460) Q :=
  vc_s (ct := fun pc => Nat.beq pc 3 || Nat.beq pc 11 || Nat.beq pc 18 || Nat.beq pc 156 || Nat.beq pc 179 || Nat.beq pc 222 || Nat.beq pc 245 || Nat.beq pc 278 || Nat.beq pc 321 || Nat.beq pc 344 || Nat.beq pc 367 || Nat.beq pc 390 || Nat.beq pc 413 || Nat.beq pc 436 || Nat.beq pc 469 || Nat.beq pc 502 || Nat.beq pc 535 || Nat.beq pc 568 || Nat.beq pc 581 || Nat.beq pc 604 || Nat.beq pc 617 || Nat.beq pc 640 || Nat.beq pc 673 || Nat.beq pc 686 || Nat.beq pc 709 || Nat.beq pc 732 || Nat.beq pc 745 || Nat.beq pc 758 || Nat.beq pc 771 || Nat.beq pc 784 || Nat.beq pc 798) 1000 false (Exists.intro 1 (Exists.intro n1 (And.intro k1 (And.intro B1 (And.intro k2 (And.intro (Nat.le_of_ble_eq_true rfl) (And.intro (Nat.le_of_ble_eq_true rfl) (And.intro (Nat.le_of_ble_eq_true rfl) (And.intro (Nat.le_of_ble_eq_true rfl) H2)))))))))
/-- SnapshotRingsLaw.law from 608 -/
theorem r_L_law_608 {v0 : Nat} {v1 : Nat} {v2 : Nat} {v3 : Int32} {s0 : Int32} {h : sn_H} {Q : Option Value → sn_H → Prop}
    (k1 : hK h v2 = (0, 5, 16))
    (H1 : wpE 152 0 [some (.ref v2), none, none, none] [] h (0, 0) (fun r hh => wpE 174 612 [some (.ref v0), some (.ref v1), some (.ref v2), some (.int v3)] (r.toList ++ [.int s0]) hh (110, 9460) Q)) :
    wpE 174 608 [some (.ref v0), some (.ref v1), some (.ref v2), some (.int v3)] [.int s0] h (110, 9460) Q :=
  vc_s (ct := fun pc => Nat.beq pc 3 || Nat.beq pc 11 || Nat.beq pc 18 || Nat.beq pc 156 || Nat.beq pc 179 || Nat.beq pc 222 || Nat.beq pc 245 || Nat.beq pc 278 || Nat.beq pc 321 || Nat.beq pc 344 || Nat.beq pc 367 || Nat.beq pc 390 || Nat.beq pc 413 || Nat.beq pc 436 || Nat.beq pc 469 || Nat.beq pc 502 || Nat.beq pc 535 || Nat.beq pc 568 || Nat.beq pc 581 || Nat.beq pc 604 || Nat.beq pc 617 || Nat.beq pc 640 || Nat.beq pc 673 || Nat.beq pc 686 || Nat.beq pc 709 || Nat.beq pc 732 || Nat.beq pc 745 || Nat.beq pc 758 || Nat.beq pc 771 || Nat.beq pc 784 || Nat.beq pc 798) 1000 false (And.intro k1 (And.intro (Nat.le_of_ble_eq_true rfl) (And.intro (Nat.le_of_ble_eq_true rfl) (And.intro (Nat.le_of_ble_eq_true rfl) (And.intro (Nat.le_of_ble_eq_true rfl) H1)))))
/-- SnapshotRingsLaw.law from 626 -/
theorem r_L_law_626 {v0 : Nat} {v1 : Nat} {v2 : Nat} {v3 : Int32} {s0 : Int32} {n1 : Nat} {h : sn_H} {Q : Option Value → sn_H → Prop}
    (k1 : hK h v0 = (1, 1, n1))
    (k2 : hK h v2 = (0, 5, 16))
    (B1 : vp_in (v3 + nI 1) n1)
    (H2 : wpE 153 0 [some (.ref v2), some (.int (hG h v0 (v3 + nI 1).toNatClampNeg))] [] h (0, 0) (fun r hh => wpE 174 635 [some (.ref v0), some (.ref v1), some (.ref v2), some (.int v3)] (r.toList ++ [.int s0]) hh (110, 9460) Q)) :
    wpE 174 626 [some (.ref v0), some (.ref v1), some (.ref v2), some (.int v3)] [.int s0] h (110, 9460) Q :=
  vc_s (ct := fun pc => Nat.beq pc 3 || Nat.beq pc 11 || Nat.beq pc 18 || Nat.beq pc 156 || Nat.beq pc 179 || Nat.beq pc 222 || Nat.beq pc 245 || Nat.beq pc 278 || Nat.beq pc 321 || Nat.beq pc 344 || Nat.beq pc 367 || Nat.beq pc 390 || Nat.beq pc 413 || Nat.beq pc 436 || Nat.beq pc 469 || Nat.beq pc 502 || Nat.beq pc 535 || Nat.beq pc 568 || Nat.beq pc 581 || Nat.beq pc 604 || Nat.beq pc 617 || Nat.beq pc 640 || Nat.beq pc 673 || Nat.beq pc 686 || Nat.beq pc 709 || Nat.beq pc 732 || Nat.beq pc 745 || Nat.beq pc 758 || Nat.beq pc 771 || Nat.beq pc 784 || Nat.beq pc 798) 1000 false (Exists.intro 1 (Exists.intro n1 (And.intro k1 (And.intro B1 (And.intro k2 (And.intro (Nat.le_of_ble_eq_true rfl) (And.intro (Nat.le_of_ble_eq_true rfl) (And.intro (Nat.le_of_ble_eq_true rfl) (And.intro (Nat.le_of_ble_eq_true rfl) H2)))))))))
/-- SnapshotRingsLaw.law from 654 -/
theorem r_L_law_654 {v0 : Nat} {v1 : Nat} {v2 : Nat} {v3 : Int32} {s0 : Int32} {n1 : Nat} {h : sn_H} {Q : Option Value → sn_H → Prop}
    (k1 : hK h v0 = (1, 1, n1))
    (k2 : hK h v2 = (0, 5, 16))
    (B1 : vp_in (v3 + nI 1) n1)
    (B2 : vp_in (v3 + nI 2) n1)
    (H3 : wpE 155 0 [some (.ref v2), some (.int (hG h v0 (v3 + nI 1).toNatClampNeg)), some (.int (hG h v0 (v3 + nI 2).toNatClampNeg))] [] h (0, 0) (fun r hh => wpE 174 668 [some (.ref v0), some (.ref v1), some (.ref v2), some (.int v3)] (r.toList ++ [.int s0]) hh (110, 9460) Q)) :
    wpE 174 654 [some (.ref v0), some (.ref v1), some (.ref v2), some (.int v3)] [.int s0] h (110, 9460) Q :=
  vc_s (ct := fun pc => Nat.beq pc 3 || Nat.beq pc 11 || Nat.beq pc 18 || Nat.beq pc 156 || Nat.beq pc 179 || Nat.beq pc 222 || Nat.beq pc 245 || Nat.beq pc 278 || Nat.beq pc 321 || Nat.beq pc 344 || Nat.beq pc 367 || Nat.beq pc 390 || Nat.beq pc 413 || Nat.beq pc 436 || Nat.beq pc 469 || Nat.beq pc 502 || Nat.beq pc 535 || Nat.beq pc 568 || Nat.beq pc 581 || Nat.beq pc 604 || Nat.beq pc 617 || Nat.beq pc 640 || Nat.beq pc 673 || Nat.beq pc 686 || Nat.beq pc 709 || Nat.beq pc 732 || Nat.beq pc 745 || Nat.beq pc 758 || Nat.beq pc 771 || Nat.beq pc 784 || Nat.beq pc 798) 1000 false (Exists.intro 1 (Exists.intro n1 (And.intro k1 (And.intro B1 (Exists.intro 1 (Exists.intro n1 (And.intro k1 (And.intro B2 (And.intro k2 (And.intro (Nat.le_of_ble_eq_true rfl) (And.intro (Nat.le_of_ble_eq_true rfl) (And.intro (Nat.le_of_ble_eq_true rfl) (And.intro (Nat.le_of_ble_eq_true rfl) H3)))))))))))))
/-- SnapshotRingsLaw.law from 677 -/
theorem r_L_law_677 {v0 : Nat} {v1 : Nat} {v2 : Nat} {v3 : Int32} {s0 : Int32} {h : sn_H} {Q : Option Value → sn_H → Prop}
    (k1 : hK h v2 = (0, 5, 16))
    (H1 : wpE 157 0 [some (.ref v2), none, none] [] h (0, 0) (fun r hh => wpE 174 681 [some (.ref v0), some (.ref v1), some (.ref v2), some (.int v3)] (r.toList ++ [.int s0]) hh (110, 9460) Q)) :
    wpE 174 677 [some (.ref v0), some (.ref v1), some (.ref v2), some (.int v3)] [.int s0] h (110, 9460) Q :=
  vc_s (ct := fun pc => Nat.beq pc 3 || Nat.beq pc 11 || Nat.beq pc 18 || Nat.beq pc 156 || Nat.beq pc 179 || Nat.beq pc 222 || Nat.beq pc 245 || Nat.beq pc 278 || Nat.beq pc 321 || Nat.beq pc 344 || Nat.beq pc 367 || Nat.beq pc 390 || Nat.beq pc 413 || Nat.beq pc 436 || Nat.beq pc 469 || Nat.beq pc 502 || Nat.beq pc 535 || Nat.beq pc 568 || Nat.beq pc 581 || Nat.beq pc 604 || Nat.beq pc 617 || Nat.beq pc 640 || Nat.beq pc 673 || Nat.beq pc 686 || Nat.beq pc 709 || Nat.beq pc 732 || Nat.beq pc 745 || Nat.beq pc 758 || Nat.beq pc 771 || Nat.beq pc 784 || Nat.beq pc 798) 1000 false (And.intro k1 (And.intro (Nat.le_of_ble_eq_true rfl) (And.intro (Nat.le_of_ble_eq_true rfl) (And.intro (Nat.le_of_ble_eq_true rfl) (And.intro (Nat.le_of_ble_eq_true rfl) H1)))))
/-- SnapshotRingsLaw.law from 695 -/
theorem r_L_law_695 {v0 : Nat} {v1 : Nat} {v2 : Nat} {v3 : Int32} {s0 : Int32} {n1 : Nat} {h : sn_H} {Q : Option Value → sn_H → Prop}
    (k1 : hK h v0 = (1, 1, n1))
    (k2 : hK h v2 = (0, 5, 16))
    (B1 : vp_in (v3 + nI 1) n1)
    (H2 : wpE 158 0 [some (.ref v2), some (.int (hG h v0 (v3 + nI 1).toNatClampNeg)), none] [] h (0, 0) (fun r hh => wpE 174 704 [some (.ref v0), some (.ref v1), some (.ref v2), some (.int v3)] (r.toList ++ [.int s0]) hh (110, 9460) Q)) :
    wpE 174 695 [some (.ref v0), some (.ref v1), some (.ref v2), some (.int v3)] [.int s0] h (110, 9460) Q :=
  vc_s (ct := fun pc => Nat.beq pc 3 || Nat.beq pc 11 || Nat.beq pc 18 || Nat.beq pc 156 || Nat.beq pc 179 || Nat.beq pc 222 || Nat.beq pc 245 || Nat.beq pc 278 || Nat.beq pc 321 || Nat.beq pc 344 || Nat.beq pc 367 || Nat.beq pc 390 || Nat.beq pc 413 || Nat.beq pc 436 || Nat.beq pc 469 || Nat.beq pc 502 || Nat.beq pc 535 || Nat.beq pc 568 || Nat.beq pc 581 || Nat.beq pc 604 || Nat.beq pc 617 || Nat.beq pc 640 || Nat.beq pc 673 || Nat.beq pc 686 || Nat.beq pc 709 || Nat.beq pc 732 || Nat.beq pc 745 || Nat.beq pc 758 || Nat.beq pc 771 || Nat.beq pc 784 || Nat.beq pc 798) 1000 false (Exists.intro 1 (Exists.intro n1 (And.intro k1 (And.intro B1 (And.intro k2 (And.intro (Nat.le_of_ble_eq_true rfl) (And.intro (Nat.le_of_ble_eq_true rfl) (And.intro (Nat.le_of_ble_eq_true rfl) (And.intro (Nat.le_of_ble_eq_true rfl) H2)))))))))
/-- SnapshotRingsLaw.law from 718 -/
theorem r_L_law_718 {v0 : Nat} {v1 : Nat} {v2 : Nat} {v3 : Int32} {s0 : Int32} {n1 : Nat} {h : sn_H} {Q : Option Value → sn_H → Prop}
    (k1 : hK h v0 = (1, 1, n1))
    (k2 : hK h v2 = (0, 5, 16))
    (B1 : vp_in (v3 + nI 1) n1)
    (H2 : wpE 159 0 [some (.ref v2), some (.int (hG h v0 (v3 + nI 1).toNatClampNeg))] [] h (0, 0) (fun r hh => wpE 174 727 [some (.ref v0), some (.ref v1), some (.ref v2), some (.int v3)] (r.toList ++ [.int s0]) hh (110, 9460) Q)) :
    wpE 174 718 [some (.ref v0), some (.ref v1), some (.ref v2), some (.int v3)] [.int s0] h (110, 9460) Q :=
  vc_s (ct := fun pc => Nat.beq pc 3 || Nat.beq pc 11 || Nat.beq pc 18 || Nat.beq pc 156 || Nat.beq pc 179 || Nat.beq pc 222 || Nat.beq pc 245 || Nat.beq pc 278 || Nat.beq pc 321 || Nat.beq pc 344 || Nat.beq pc 367 || Nat.beq pc 390 || Nat.beq pc 413 || Nat.beq pc 436 || Nat.beq pc 469 || Nat.beq pc 502 || Nat.beq pc 535 || Nat.beq pc 568 || Nat.beq pc 581 || Nat.beq pc 604 || Nat.beq pc 617 || Nat.beq pc 640 || Nat.beq pc 673 || Nat.beq pc 686 || Nat.beq pc 709 || Nat.beq pc 732 || Nat.beq pc 745 || Nat.beq pc 758 || Nat.beq pc 771 || Nat.beq pc 784 || Nat.beq pc 798) 1000 false (Exists.intro 1 (Exists.intro n1 (And.intro k1 (And.intro B1 (And.intro k2 (And.intro (Nat.le_of_ble_eq_true rfl) (And.intro (Nat.le_of_ble_eq_true rfl) (And.intro (Nat.le_of_ble_eq_true rfl) (And.intro (Nat.le_of_ble_eq_true rfl) H2)))))))))
/-- SnapshotRingsLaw.law from 736 -/
theorem r_L_law_736 {v0 : Nat} {v1 : Nat} {v2 : Nat} {v3 : Int32} {s0 : Int32} {h : sn_H} {Q : Option Value → sn_H → Prop}
    (k1 : hK h v2 = (0, 5, 16))
    (H1 : wpE 160 0 [some (.ref v2), none] [] h (0, 0) (fun r hh => wpE 174 740 [some (.ref v0), some (.ref v1), some (.ref v2), some (.int v3)] (r.toList ++ [.int s0]) hh (110, 9460) Q)) :
    wpE 174 736 [some (.ref v0), some (.ref v1), some (.ref v2), some (.int v3)] [.int s0] h (110, 9460) Q :=
  vc_s (ct := fun pc => Nat.beq pc 3 || Nat.beq pc 11 || Nat.beq pc 18 || Nat.beq pc 156 || Nat.beq pc 179 || Nat.beq pc 222 || Nat.beq pc 245 || Nat.beq pc 278 || Nat.beq pc 321 || Nat.beq pc 344 || Nat.beq pc 367 || Nat.beq pc 390 || Nat.beq pc 413 || Nat.beq pc 436 || Nat.beq pc 469 || Nat.beq pc 502 || Nat.beq pc 535 || Nat.beq pc 568 || Nat.beq pc 581 || Nat.beq pc 604 || Nat.beq pc 617 || Nat.beq pc 640 || Nat.beq pc 673 || Nat.beq pc 686 || Nat.beq pc 709 || Nat.beq pc 732 || Nat.beq pc 745 || Nat.beq pc 758 || Nat.beq pc 771 || Nat.beq pc 784 || Nat.beq pc 798) 1000 false (And.intro k1 (And.intro (Nat.le_of_ble_eq_true rfl) (And.intro (Nat.le_of_ble_eq_true rfl) (And.intro (Nat.le_of_ble_eq_true rfl) (And.intro (Nat.le_of_ble_eq_true rfl) H1)))))
/-- SnapshotRingsLaw.law from 749 -/
theorem r_L_law_749 {v0 : Nat} {v1 : Nat} {v2 : Nat} {v3 : Int32} {s0 : Int32} {h : sn_H} {Q : Option Value → sn_H → Prop}
    (k1 : hK h v2 = (0, 5, 16))
    (H1 : wpE 161 0 [some (.ref v2)] [] h (0, 0) (fun r hh => wpE 174 753 [some (.ref v0), some (.ref v1), some (.ref v2), some (.int v3)] (r.toList ++ [.int s0]) hh (110, 9460) Q)) :
    wpE 174 749 [some (.ref v0), some (.ref v1), some (.ref v2), some (.int v3)] [.int s0] h (110, 9460) Q :=
  vc_s (ct := fun pc => Nat.beq pc 3 || Nat.beq pc 11 || Nat.beq pc 18 || Nat.beq pc 156 || Nat.beq pc 179 || Nat.beq pc 222 || Nat.beq pc 245 || Nat.beq pc 278 || Nat.beq pc 321 || Nat.beq pc 344 || Nat.beq pc 367 || Nat.beq pc 390 || Nat.beq pc 413 || Nat.beq pc 436 || Nat.beq pc 469 || Nat.beq pc 502 || Nat.beq pc 535 || Nat.beq pc 568 || Nat.beq pc 581 || Nat.beq pc 604 || Nat.beq pc 617 || Nat.beq pc 640 || Nat.beq pc 673 || Nat.beq pc 686 || Nat.beq pc 709 || Nat.beq pc 732 || Nat.beq pc 745 || Nat.beq pc 758 || Nat.beq pc 771 || Nat.beq pc 784 || Nat.beq pc 798) 1000 false (And.intro k1 (And.intro (Nat.le_of_ble_eq_true rfl) (And.intro (Nat.le_of_ble_eq_true rfl) (And.intro (Nat.le_of_ble_eq_true rfl) (And.intro (Nat.le_of_ble_eq_true rfl) H1)))))
/-- SnapshotRingsLaw.law from 762 -/
theorem r_L_law_762 {v0 : Nat} {v1 : Nat} {v2 : Nat} {v3 : Int32} {s0 : Int32} {h : sn_H} {Q : Option Value → sn_H → Prop}
    (k1 : hK h v2 = (0, 5, 16))
    (H1 : wpE 169 0 [some (.ref v2), none, none] [] h (0, 0) (fun r hh => wpE 174 766 [some (.ref v0), some (.ref v1), some (.ref v2), some (.int v3)] (r.toList ++ [.int s0]) hh (110, 9460) Q)) :
    wpE 174 762 [some (.ref v0), some (.ref v1), some (.ref v2), some (.int v3)] [.int s0] h (110, 9460) Q :=
  vc_s (ct := fun pc => Nat.beq pc 3 || Nat.beq pc 11 || Nat.beq pc 18 || Nat.beq pc 156 || Nat.beq pc 179 || Nat.beq pc 222 || Nat.beq pc 245 || Nat.beq pc 278 || Nat.beq pc 321 || Nat.beq pc 344 || Nat.beq pc 367 || Nat.beq pc 390 || Nat.beq pc 413 || Nat.beq pc 436 || Nat.beq pc 469 || Nat.beq pc 502 || Nat.beq pc 535 || Nat.beq pc 568 || Nat.beq pc 581 || Nat.beq pc 604 || Nat.beq pc 617 || Nat.beq pc 640 || Nat.beq pc 673 || Nat.beq pc 686 || Nat.beq pc 709 || Nat.beq pc 732 || Nat.beq pc 745 || Nat.beq pc 758 || Nat.beq pc 771 || Nat.beq pc 784 || Nat.beq pc 798) 1000 false (And.intro k1 (And.intro (Nat.le_of_ble_eq_true rfl) (And.intro (Nat.le_of_ble_eq_true rfl) (And.intro (Nat.le_of_ble_eq_true rfl) (And.intro (Nat.le_of_ble_eq_true rfl) H1)))))
/-- SnapshotRingsLaw.law from 775 -/
theorem r_L_law_775 {v0 : Nat} {v1 : Nat} {v2 : Nat} {v3 : Int32} {s0 : Int32} {h : sn_H} {Q : Option Value → sn_H → Prop}
    (k1 : hK h v2 = (0, 5, 16))
    (H1 : wpE 172 0 [some (.ref v2)] [] h (0, 0) (fun r hh => wpE 174 779 [some (.ref v0), some (.ref v1), some (.ref v2), some (.int v3)] (r.toList ++ [.int s0]) hh (110, 9460) Q)) :
    wpE 174 775 [some (.ref v0), some (.ref v1), some (.ref v2), some (.int v3)] [.int s0] h (110, 9460) Q :=
  vc_s (ct := fun pc => Nat.beq pc 3 || Nat.beq pc 11 || Nat.beq pc 18 || Nat.beq pc 156 || Nat.beq pc 179 || Nat.beq pc 222 || Nat.beq pc 245 || Nat.beq pc 278 || Nat.beq pc 321 || Nat.beq pc 344 || Nat.beq pc 367 || Nat.beq pc 390 || Nat.beq pc 413 || Nat.beq pc 436 || Nat.beq pc 469 || Nat.beq pc 502 || Nat.beq pc 535 || Nat.beq pc 568 || Nat.beq pc 581 || Nat.beq pc 604 || Nat.beq pc 617 || Nat.beq pc 640 || Nat.beq pc 673 || Nat.beq pc 686 || Nat.beq pc 709 || Nat.beq pc 732 || Nat.beq pc 745 || Nat.beq pc 758 || Nat.beq pc 771 || Nat.beq pc 784 || Nat.beq pc 798) 1000 false (And.intro k1 (And.intro (Nat.le_of_ble_eq_true rfl) (And.intro (Nat.le_of_ble_eq_true rfl) (And.intro (Nat.le_of_ble_eq_true rfl) (And.intro (Nat.le_of_ble_eq_true rfl) H1)))))
/-- SnapshotRingsLaw.law from 788 -/
theorem r_L_law_788 {v0 : Nat} {v1 : Nat} {v2 : Nat} {v3 : Int32} {s0 : Int64} {h : sn_H} {Q : Option Value → sn_H → Prop}
    (k1 : hK h v2 = (0, 5, 16))
    (H1 : wpE 173 0 [some (.ref v2), none, none, none, none] [] h (0, 0) (fun r hh => wpE 174 792 [some (.ref v0), some (.ref v1), some (.ref v2), some (.int v3)] (r.toList ++ [.long s0]) hh (110, 9460) Q)) :
    wpE 174 788 [some (.ref v0), some (.ref v1), some (.ref v2), some (.int v3)] [.long s0] h (110, 9460) Q :=
  vc_s (ct := fun pc => Nat.beq pc 3 || Nat.beq pc 11 || Nat.beq pc 18 || Nat.beq pc 156 || Nat.beq pc 179 || Nat.beq pc 222 || Nat.beq pc 245 || Nat.beq pc 278 || Nat.beq pc 321 || Nat.beq pc 344 || Nat.beq pc 367 || Nat.beq pc 390 || Nat.beq pc 413 || Nat.beq pc 436 || Nat.beq pc 469 || Nat.beq pc 502 || Nat.beq pc 535 || Nat.beq pc 568 || Nat.beq pc 581 || Nat.beq pc 604 || Nat.beq pc 617 || Nat.beq pc 640 || Nat.beq pc 673 || Nat.beq pc 686 || Nat.beq pc 709 || Nat.beq pc 732 || Nat.beq pc 745 || Nat.beq pc 758 || Nat.beq pc 771 || Nat.beq pc 784 || Nat.beq pc 798) 1000 false (And.intro k1 (And.intro (Nat.le_of_ble_eq_true rfl) (And.intro (Nat.le_of_ble_eq_true rfl) (And.intro (Nat.le_of_ble_eq_true rfl) (And.intro (Nat.le_of_ble_eq_true rfl) H1)))))
/-- SnapshotRingsLaw.law from 174 -/
theorem r_L_law_174 {v0 : Nat} {v1 : Nat} {v2 : Nat} {v3 : Int32} {s0 : Int32} {s1 : Int32} {h : sn_H} {Q : Option Value → sn_H → Prop}
    (H1 : s0 = s1 → wpE 174 798 [some (.ref v0), some (.ref v1), some (.ref v2), some (.int v3)] [] h (110, 9460) Q)
    (H2 : ¬ s0 = s1 → Q (some (.int (nI 0))) h) :
    wpE 174 174 [some (.ref v0), some (.ref v1), some (.ref v2), some (.int v3)] [.int s1, .int s0] h (110, 9460) Q :=
  vc_s (ct := fun pc => Nat.beq pc 3 || Nat.beq pc 11 || Nat.beq pc 18 || Nat.beq pc 156 || Nat.beq pc 179 || Nat.beq pc 222 || Nat.beq pc 245 || Nat.beq pc 278 || Nat.beq pc 321 || Nat.beq pc 344 || Nat.beq pc 367 || Nat.beq pc 390 || Nat.beq pc 413 || Nat.beq pc 436 || Nat.beq pc 469 || Nat.beq pc 502 || Nat.beq pc 535 || Nat.beq pc 568 || Nat.beq pc 581 || Nat.beq pc 604 || Nat.beq pc 617 || Nat.beq pc 640 || Nat.beq pc 673 || Nat.beq pc 686 || Nat.beq pc 709 || Nat.beq pc 732 || Nat.beq pc 745 || Nat.beq pc 758 || Nat.beq pc 771 || Nat.beq pc 784 || Nat.beq pc 798) 1000 false (And.intro (fun c1 => (H1 c1)) (fun c2 => (And.intro rfl (H2 c2))))
/-- SnapshotRingsLaw.law from 217 -/
theorem r_L_law_217 {v0 : Nat} {v1 : Nat} {v2 : Nat} {v3 : Int32} {s0 : Int32} {s1 : Int32} {h : sn_H} {Q : Option Value → sn_H → Prop}
    (H1 : s0 = s1 → wpE 174 798 [some (.ref v0), some (.ref v1), some (.ref v2), some (.int v3)] [] h (110, 9460) Q)
    (H2 : ¬ s0 = s1 → Q (some (.int (nI 0))) h) :
    wpE 174 217 [some (.ref v0), some (.ref v1), some (.ref v2), some (.int v3)] [.int s1, .int s0] h (110, 9460) Q :=
  vc_s (ct := fun pc => Nat.beq pc 3 || Nat.beq pc 11 || Nat.beq pc 18 || Nat.beq pc 156 || Nat.beq pc 179 || Nat.beq pc 222 || Nat.beq pc 245 || Nat.beq pc 278 || Nat.beq pc 321 || Nat.beq pc 344 || Nat.beq pc 367 || Nat.beq pc 390 || Nat.beq pc 413 || Nat.beq pc 436 || Nat.beq pc 469 || Nat.beq pc 502 || Nat.beq pc 535 || Nat.beq pc 568 || Nat.beq pc 581 || Nat.beq pc 604 || Nat.beq pc 617 || Nat.beq pc 640 || Nat.beq pc 673 || Nat.beq pc 686 || Nat.beq pc 709 || Nat.beq pc 732 || Nat.beq pc 745 || Nat.beq pc 758 || Nat.beq pc 771 || Nat.beq pc 784 || Nat.beq pc 798) 1000 false (And.intro (fun c1 => (H1 c1)) (fun c2 => (And.intro rfl (H2 c2))))
/-- SnapshotRingsLaw.law from 240 -/
theorem r_L_law_240 {v0 : Nat} {v1 : Nat} {v2 : Nat} {v3 : Int32} {s0 : Int32} {s1 : Int32} {h : sn_H} {Q : Option Value → sn_H → Prop}
    (H1 : s0 = s1 → wpE 174 798 [some (.ref v0), some (.ref v1), some (.ref v2), some (.int v3)] [] h (110, 9460) Q)
    (H2 : ¬ s0 = s1 → Q (some (.int (nI 0))) h) :
    wpE 174 240 [some (.ref v0), some (.ref v1), some (.ref v2), some (.int v3)] [.int s1, .int s0] h (110, 9460) Q :=
  vc_s (ct := fun pc => Nat.beq pc 3 || Nat.beq pc 11 || Nat.beq pc 18 || Nat.beq pc 156 || Nat.beq pc 179 || Nat.beq pc 222 || Nat.beq pc 245 || Nat.beq pc 278 || Nat.beq pc 321 || Nat.beq pc 344 || Nat.beq pc 367 || Nat.beq pc 390 || Nat.beq pc 413 || Nat.beq pc 436 || Nat.beq pc 469 || Nat.beq pc 502 || Nat.beq pc 535 || Nat.beq pc 568 || Nat.beq pc 581 || Nat.beq pc 604 || Nat.beq pc 617 || Nat.beq pc 640 || Nat.beq pc 673 || Nat.beq pc 686 || Nat.beq pc 709 || Nat.beq pc 732 || Nat.beq pc 745 || Nat.beq pc 758 || Nat.beq pc 771 || Nat.beq pc 784 || Nat.beq pc 798) 1000 false (And.intro (fun c1 => (H1 c1)) (fun c2 => (And.intro rfl (H2 c2))))
/-- SnapshotRingsLaw.law from 273 -/
theorem r_L_law_273 {v0 : Nat} {v1 : Nat} {v2 : Nat} {v3 : Int32} {s0 : Int32} {s1 : Int32} {h : sn_H} {Q : Option Value → sn_H → Prop}
    (H1 : s0 = s1 → wpE 174 798 [some (.ref v0), some (.ref v1), some (.ref v2), some (.int v3)] [] h (110, 9460) Q)
    (H2 : ¬ s0 = s1 → Q (some (.int (nI 0))) h) :
    wpE 174 273 [some (.ref v0), some (.ref v1), some (.ref v2), some (.int v3)] [.int s1, .int s0] h (110, 9460) Q :=
  vc_s (ct := fun pc => Nat.beq pc 3 || Nat.beq pc 11 || Nat.beq pc 18 || Nat.beq pc 156 || Nat.beq pc 179 || Nat.beq pc 222 || Nat.beq pc 245 || Nat.beq pc 278 || Nat.beq pc 321 || Nat.beq pc 344 || Nat.beq pc 367 || Nat.beq pc 390 || Nat.beq pc 413 || Nat.beq pc 436 || Nat.beq pc 469 || Nat.beq pc 502 || Nat.beq pc 535 || Nat.beq pc 568 || Nat.beq pc 581 || Nat.beq pc 604 || Nat.beq pc 617 || Nat.beq pc 640 || Nat.beq pc 673 || Nat.beq pc 686 || Nat.beq pc 709 || Nat.beq pc 732 || Nat.beq pc 745 || Nat.beq pc 758 || Nat.beq pc 771 || Nat.beq pc 784 || Nat.beq pc 798) 1000 false (And.intro (fun c1 => (H1 c1)) (fun c2 => (And.intro rfl (H2 c2))))
/-- SnapshotRingsLaw.law from 316 -/
theorem r_L_law_316 {v0 : Nat} {v1 : Nat} {v2 : Nat} {v3 : Int32} {s0 : Int32} {s1 : Int32} {h : sn_H} {Q : Option Value → sn_H → Prop}
    (H1 : s0 = s1 → wpE 174 798 [some (.ref v0), some (.ref v1), some (.ref v2), some (.int v3)] [] h (110, 9460) Q)
    (H2 : ¬ s0 = s1 → Q (some (.int (nI 0))) h) :
    wpE 174 316 [some (.ref v0), some (.ref v1), some (.ref v2), some (.int v3)] [.int s1, .int s0] h (110, 9460) Q :=
  vc_s (ct := fun pc => Nat.beq pc 3 || Nat.beq pc 11 || Nat.beq pc 18 || Nat.beq pc 156 || Nat.beq pc 179 || Nat.beq pc 222 || Nat.beq pc 245 || Nat.beq pc 278 || Nat.beq pc 321 || Nat.beq pc 344 || Nat.beq pc 367 || Nat.beq pc 390 || Nat.beq pc 413 || Nat.beq pc 436 || Nat.beq pc 469 || Nat.beq pc 502 || Nat.beq pc 535 || Nat.beq pc 568 || Nat.beq pc 581 || Nat.beq pc 604 || Nat.beq pc 617 || Nat.beq pc 640 || Nat.beq pc 673 || Nat.beq pc 686 || Nat.beq pc 709 || Nat.beq pc 732 || Nat.beq pc 745 || Nat.beq pc 758 || Nat.beq pc 771 || Nat.beq pc 784 || Nat.beq pc 798) 1000 false (And.intro (fun c1 => (H1 c1)) (fun c2 => (And.intro rfl (H2 c2))))
/-- SnapshotRingsLaw.law from 339 -/
theorem r_L_law_339 {v0 : Nat} {v1 : Nat} {v2 : Nat} {v3 : Int32} {s0 : Int32} {s1 : Int32} {h : sn_H} {Q : Option Value → sn_H → Prop}
    (H1 : s0 = s1 → wpE 174 798 [some (.ref v0), some (.ref v1), some (.ref v2), some (.int v3)] [] h (110, 9460) Q)
    (H2 : ¬ s0 = s1 → Q (some (.int (nI 0))) h) :
    wpE 174 339 [some (.ref v0), some (.ref v1), some (.ref v2), some (.int v3)] [.int s1, .int s0] h (110, 9460) Q :=
  vc_s (ct := fun pc => Nat.beq pc 3 || Nat.beq pc 11 || Nat.beq pc 18 || Nat.beq pc 156 || Nat.beq pc 179 || Nat.beq pc 222 || Nat.beq pc 245 || Nat.beq pc 278 || Nat.beq pc 321 || Nat.beq pc 344 || Nat.beq pc 367 || Nat.beq pc 390 || Nat.beq pc 413 || Nat.beq pc 436 || Nat.beq pc 469 || Nat.beq pc 502 || Nat.beq pc 535 || Nat.beq pc 568 || Nat.beq pc 581 || Nat.beq pc 604 || Nat.beq pc 617 || Nat.beq pc 640 || Nat.beq pc 673 || Nat.beq pc 686 || Nat.beq pc 709 || Nat.beq pc 732 || Nat.beq pc 745 || Nat.beq pc 758 || Nat.beq pc 771 || Nat.beq pc 784 || Nat.beq pc 798) 1000 false (And.intro (fun c1 => (H1 c1)) (fun c2 => (And.intro rfl (H2 c2))))
/-- SnapshotRingsLaw.law from 362 -/
theorem r_L_law_362 {v0 : Nat} {v1 : Nat} {v2 : Nat} {v3 : Int32} {s0 : Int32} {s1 : Int32} {h : sn_H} {Q : Option Value → sn_H → Prop}
    (H1 : s0 = s1 → wpE 174 798 [some (.ref v0), some (.ref v1), some (.ref v2), some (.int v3)] [] h (110, 9460) Q)
    (H2 : ¬ s0 = s1 → Q (some (.int (nI 0))) h) :
    wpE 174 362 [some (.ref v0), some (.ref v1), some (.ref v2), some (.int v3)] [.int s1, .int s0] h (110, 9460) Q :=
  vc_s (ct := fun pc => Nat.beq pc 3 || Nat.beq pc 11 || Nat.beq pc 18 || Nat.beq pc 156 || Nat.beq pc 179 || Nat.beq pc 222 || Nat.beq pc 245 || Nat.beq pc 278 || Nat.beq pc 321 || Nat.beq pc 344 || Nat.beq pc 367 || Nat.beq pc 390 || Nat.beq pc 413 || Nat.beq pc 436 || Nat.beq pc 469 || Nat.beq pc 502 || Nat.beq pc 535 || Nat.beq pc 568 || Nat.beq pc 581 || Nat.beq pc 604 || Nat.beq pc 617 || Nat.beq pc 640 || Nat.beq pc 673 || Nat.beq pc 686 || Nat.beq pc 709 || Nat.beq pc 732 || Nat.beq pc 745 || Nat.beq pc 758 || Nat.beq pc 771 || Nat.beq pc 784 || Nat.beq pc 798) 1000 false (And.intro (fun c1 => (H1 c1)) (fun c2 => (And.intro rfl (H2 c2))))
/-- SnapshotRingsLaw.law from 385 -/
theorem r_L_law_385 {v0 : Nat} {v1 : Nat} {v2 : Nat} {v3 : Int32} {s0 : Int32} {s1 : Int32} {h : sn_H} {Q : Option Value → sn_H → Prop}
    (H1 : s0 = s1 → wpE 174 798 [some (.ref v0), some (.ref v1), some (.ref v2), some (.int v3)] [] h (110, 9460) Q)
    (H2 : ¬ s0 = s1 → Q (some (.int (nI 0))) h) :
    wpE 174 385 [some (.ref v0), some (.ref v1), some (.ref v2), some (.int v3)] [.int s1, .int s0] h (110, 9460) Q :=
  vc_s (ct := fun pc => Nat.beq pc 3 || Nat.beq pc 11 || Nat.beq pc 18 || Nat.beq pc 156 || Nat.beq pc 179 || Nat.beq pc 222 || Nat.beq pc 245 || Nat.beq pc 278 || Nat.beq pc 321 || Nat.beq pc 344 || Nat.beq pc 367 || Nat.beq pc 390 || Nat.beq pc 413 || Nat.beq pc 436 || Nat.beq pc 469 || Nat.beq pc 502 || Nat.beq pc 535 || Nat.beq pc 568 || Nat.beq pc 581 || Nat.beq pc 604 || Nat.beq pc 617 || Nat.beq pc 640 || Nat.beq pc 673 || Nat.beq pc 686 || Nat.beq pc 709 || Nat.beq pc 732 || Nat.beq pc 745 || Nat.beq pc 758 || Nat.beq pc 771 || Nat.beq pc 784 || Nat.beq pc 798) 1000 false (And.intro (fun c1 => (H1 c1)) (fun c2 => (And.intro rfl (H2 c2))))
/-- SnapshotRingsLaw.law from 408 -/
theorem r_L_law_408 {v0 : Nat} {v1 : Nat} {v2 : Nat} {v3 : Int32} {s0 : Int32} {s1 : Int32} {h : sn_H} {Q : Option Value → sn_H → Prop}
    (H1 : s0 = s1 → wpE 174 798 [some (.ref v0), some (.ref v1), some (.ref v2), some (.int v3)] [] h (110, 9460) Q)
    (H2 : ¬ s0 = s1 → Q (some (.int (nI 0))) h) :
    wpE 174 408 [some (.ref v0), some (.ref v1), some (.ref v2), some (.int v3)] [.int s1, .int s0] h (110, 9460) Q :=
  vc_s (ct := fun pc => Nat.beq pc 3 || Nat.beq pc 11 || Nat.beq pc 18 || Nat.beq pc 156 || Nat.beq pc 179 || Nat.beq pc 222 || Nat.beq pc 245 || Nat.beq pc 278 || Nat.beq pc 321 || Nat.beq pc 344 || Nat.beq pc 367 || Nat.beq pc 390 || Nat.beq pc 413 || Nat.beq pc 436 || Nat.beq pc 469 || Nat.beq pc 502 || Nat.beq pc 535 || Nat.beq pc 568 || Nat.beq pc 581 || Nat.beq pc 604 || Nat.beq pc 617 || Nat.beq pc 640 || Nat.beq pc 673 || Nat.beq pc 686 || Nat.beq pc 709 || Nat.beq pc 732 || Nat.beq pc 745 || Nat.beq pc 758 || Nat.beq pc 771 || Nat.beq pc 784 || Nat.beq pc 798) 1000 false (And.intro (fun c1 => (H1 c1)) (fun c2 => (And.intro rfl (H2 c2))))
/-- SnapshotRingsLaw.law from 431 -/
theorem r_L_law_431 {v0 : Nat} {v1 : Nat} {v2 : Nat} {v3 : Int32} {s0 : Int32} {s1 : Int32} {h : sn_H} {Q : Option Value → sn_H → Prop}
    (H1 : s0 = s1 → wpE 174 798 [some (.ref v0), some (.ref v1), some (.ref v2), some (.int v3)] [] h (110, 9460) Q)
    (H2 : ¬ s0 = s1 → Q (some (.int (nI 0))) h) :
    wpE 174 431 [some (.ref v0), some (.ref v1), some (.ref v2), some (.int v3)] [.int s1, .int s0] h (110, 9460) Q :=
  vc_s (ct := fun pc => Nat.beq pc 3 || Nat.beq pc 11 || Nat.beq pc 18 || Nat.beq pc 156 || Nat.beq pc 179 || Nat.beq pc 222 || Nat.beq pc 245 || Nat.beq pc 278 || Nat.beq pc 321 || Nat.beq pc 344 || Nat.beq pc 367 || Nat.beq pc 390 || Nat.beq pc 413 || Nat.beq pc 436 || Nat.beq pc 469 || Nat.beq pc 502 || Nat.beq pc 535 || Nat.beq pc 568 || Nat.beq pc 581 || Nat.beq pc 604 || Nat.beq pc 617 || Nat.beq pc 640 || Nat.beq pc 673 || Nat.beq pc 686 || Nat.beq pc 709 || Nat.beq pc 732 || Nat.beq pc 745 || Nat.beq pc 758 || Nat.beq pc 771 || Nat.beq pc 784 || Nat.beq pc 798) 1000 false (And.intro (fun c1 => (H1 c1)) (fun c2 => (And.intro rfl (H2 c2))))
/-- SnapshotRingsLaw.law from 464 -/
theorem r_L_law_464 {v0 : Nat} {v1 : Nat} {v2 : Nat} {v3 : Int32} {s0 : Int32} {s1 : Int32} {h : sn_H} {Q : Option Value → sn_H → Prop}
    (H1 : s0 = s1 → wpE 174 798 [some (.ref v0), some (.ref v1), some (.ref v2), some (.int v3)] [] h (110, 9460) Q)
    (H2 : ¬ s0 = s1 → Q (some (.int (nI 0))) h) :
    wpE 174 464 [some (.ref v0), some (.ref v1), some (.ref v2), some (.int v3)] [.int s1, .int s0] h (110, 9460) Q :=
  vc_s (ct := fun pc => Nat.beq pc 3 || Nat.beq pc 11 || Nat.beq pc 18 || Nat.beq pc 156 || Nat.beq pc 179 || Nat.beq pc 222 || Nat.beq pc 245 || Nat.beq pc 278 || Nat.beq pc 321 || Nat.beq pc 344 || Nat.beq pc 367 || Nat.beq pc 390 || Nat.beq pc 413 || Nat.beq pc 436 || Nat.beq pc 469 || Nat.beq pc 502 || Nat.beq pc 535 || Nat.beq pc 568 || Nat.beq pc 581 || Nat.beq pc 604 || Nat.beq pc 617 || Nat.beq pc 640 || Nat.beq pc 673 || Nat.beq pc 686 || Nat.beq pc 709 || Nat.beq pc 732 || Nat.beq pc 745 || Nat.beq pc 758 || Nat.beq pc 771 || Nat.beq pc 784 || Nat.beq pc 798) 1000 false (And.intro (fun c1 => (H1 c1)) (fun c2 => (And.intro rfl (H2 c2))))
/-- SnapshotRingsLaw.law from 497 -/
theorem r_L_law_497 {v0 : Nat} {v1 : Nat} {v2 : Nat} {v3 : Int32} {s0 : Int32} {s1 : Int32} {h : sn_H} {Q : Option Value → sn_H → Prop}
    (H1 : s0 = s1 → wpE 174 798 [some (.ref v0), some (.ref v1), some (.ref v2), some (.int v3)] [] h (110, 9460) Q)
    (H2 : ¬ s0 = s1 → Q (some (.int (nI 0))) h) :
    wpE 174 497 [some (.ref v0), some (.ref v1), some (.ref v2), some (.int v3)] [.int s1, .int s0] h (110, 9460) Q :=
  vc_s (ct := fun pc => Nat.beq pc 3 || Nat.beq pc 11 || Nat.beq pc 18 || Nat.beq pc 156 || Nat.beq pc 179 || Nat.beq pc 222 || Nat.beq pc 245 || Nat.beq pc 278 || Nat.beq pc 321 || Nat.beq pc 344 || Nat.beq pc 367 || Nat.beq pc 390 || Nat.beq pc 413 || Nat.beq pc 436 || Nat.beq pc 469 || Nat.beq pc 502 || Nat.beq pc 535 || Nat.beq pc 568 || Nat.beq pc 581 || Nat.beq pc 604 || Nat.beq pc 617 || Nat.beq pc 640 || Nat.beq pc 673 || Nat.beq pc 686 || Nat.beq pc 709 || Nat.beq pc 732 || Nat.beq pc 745 || Nat.beq pc 758 || Nat.beq pc 771 || Nat.beq pc 784 || Nat.beq pc 798) 1000 false (And.intro (fun c1 => (H1 c1)) (fun c2 => (And.intro rfl (H2 c2))))
/-- SnapshotRingsLaw.law from 530 -/
theorem r_L_law_530 {v0 : Nat} {v1 : Nat} {v2 : Nat} {v3 : Int32} {s0 : Int32} {s1 : Int32} {h : sn_H} {Q : Option Value → sn_H → Prop}
    (H1 : s0 = s1 → wpE 174 798 [some (.ref v0), some (.ref v1), some (.ref v2), some (.int v3)] [] h (110, 9460) Q)
    (H2 : ¬ s0 = s1 → Q (some (.int (nI 0))) h) :
    wpE 174 530 [some (.ref v0), some (.ref v1), some (.ref v2), some (.int v3)] [.int s1, .int s0] h (110, 9460) Q :=
  vc_s (ct := fun pc => Nat.beq pc 3 || Nat.beq pc 11 || Nat.beq pc 18 || Nat.beq pc 156 || Nat.beq pc 179 || Nat.beq pc 222 || Nat.beq pc 245 || Nat.beq pc 278 || Nat.beq pc 321 || Nat.beq pc 344 || Nat.beq pc 367 || Nat.beq pc 390 || Nat.beq pc 413 || Nat.beq pc 436 || Nat.beq pc 469 || Nat.beq pc 502 || Nat.beq pc 535 || Nat.beq pc 568 || Nat.beq pc 581 || Nat.beq pc 604 || Nat.beq pc 617 || Nat.beq pc 640 || Nat.beq pc 673 || Nat.beq pc 686 || Nat.beq pc 709 || Nat.beq pc 732 || Nat.beq pc 745 || Nat.beq pc 758 || Nat.beq pc 771 || Nat.beq pc 784 || Nat.beq pc 798) 1000 false (And.intro (fun c1 => (H1 c1)) (fun c2 => (And.intro rfl (H2 c2))))
/-- SnapshotRingsLaw.law from 563 -/
theorem r_L_law_563 {v0 : Nat} {v1 : Nat} {v2 : Nat} {v3 : Int32} {s0 : Int32} {s1 : Int32} {h : sn_H} {Q : Option Value → sn_H → Prop}
    (H1 : s0 = s1 → wpE 174 798 [some (.ref v0), some (.ref v1), some (.ref v2), some (.int v3)] [] h (110, 9460) Q)
    (H2 : ¬ s0 = s1 → Q (some (.int (nI 0))) h) :
    wpE 174 563 [some (.ref v0), some (.ref v1), some (.ref v2), some (.int v3)] [.int s1, .int s0] h (110, 9460) Q :=
  vc_s (ct := fun pc => Nat.beq pc 3 || Nat.beq pc 11 || Nat.beq pc 18 || Nat.beq pc 156 || Nat.beq pc 179 || Nat.beq pc 222 || Nat.beq pc 245 || Nat.beq pc 278 || Nat.beq pc 321 || Nat.beq pc 344 || Nat.beq pc 367 || Nat.beq pc 390 || Nat.beq pc 413 || Nat.beq pc 436 || Nat.beq pc 469 || Nat.beq pc 502 || Nat.beq pc 535 || Nat.beq pc 568 || Nat.beq pc 581 || Nat.beq pc 604 || Nat.beq pc 617 || Nat.beq pc 640 || Nat.beq pc 673 || Nat.beq pc 686 || Nat.beq pc 709 || Nat.beq pc 732 || Nat.beq pc 745 || Nat.beq pc 758 || Nat.beq pc 771 || Nat.beq pc 784 || Nat.beq pc 798) 1000 false (And.intro (fun c1 => (H1 c1)) (fun c2 => (And.intro rfl (H2 c2))))
/-- SnapshotRingsLaw.law from 576 -/
theorem r_L_law_576 {v0 : Nat} {v1 : Nat} {v2 : Nat} {v3 : Int32} {s0 : Int32} {s1 : Int32} {h : sn_H} {Q : Option Value → sn_H → Prop}
    (H1 : s0 = s1 → wpE 174 798 [some (.ref v0), some (.ref v1), some (.ref v2), some (.int v3)] [] h (110, 9460) Q)
    (H2 : ¬ s0 = s1 → Q (some (.int (nI 0))) h) :
    wpE 174 576 [some (.ref v0), some (.ref v1), some (.ref v2), some (.int v3)] [.int s1, .int s0] h (110, 9460) Q :=
  vc_s (ct := fun pc => Nat.beq pc 3 || Nat.beq pc 11 || Nat.beq pc 18 || Nat.beq pc 156 || Nat.beq pc 179 || Nat.beq pc 222 || Nat.beq pc 245 || Nat.beq pc 278 || Nat.beq pc 321 || Nat.beq pc 344 || Nat.beq pc 367 || Nat.beq pc 390 || Nat.beq pc 413 || Nat.beq pc 436 || Nat.beq pc 469 || Nat.beq pc 502 || Nat.beq pc 535 || Nat.beq pc 568 || Nat.beq pc 581 || Nat.beq pc 604 || Nat.beq pc 617 || Nat.beq pc 640 || Nat.beq pc 673 || Nat.beq pc 686 || Nat.beq pc 709 || Nat.beq pc 732 || Nat.beq pc 745 || Nat.beq pc 758 || Nat.beq pc 771 || Nat.beq pc 784 || Nat.beq pc 798) 1000 false (And.intro (fun c1 => (H1 c1)) (fun c2 => (And.intro rfl (H2 c2))))
/-- SnapshotRingsLaw.law from 599 -/
theorem r_L_law_599 {v0 : Nat} {v1 : Nat} {v2 : Nat} {v3 : Int32} {s0 : Int32} {s1 : Int32} {h : sn_H} {Q : Option Value → sn_H → Prop}
    (H1 : s0 = s1 → wpE 174 798 [some (.ref v0), some (.ref v1), some (.ref v2), some (.int v3)] [] h (110, 9460) Q)
    (H2 : ¬ s0 = s1 → Q (some (.int (nI 0))) h) :
    wpE 174 599 [some (.ref v0), some (.ref v1), some (.ref v2), some (.int v3)] [.int s1, .int s0] h (110, 9460) Q :=
  vc_s (ct := fun pc => Nat.beq pc 3 || Nat.beq pc 11 || Nat.beq pc 18 || Nat.beq pc 156 || Nat.beq pc 179 || Nat.beq pc 222 || Nat.beq pc 245 || Nat.beq pc 278 || Nat.beq pc 321 || Nat.beq pc 344 || Nat.beq pc 367 || Nat.beq pc 390 || Nat.beq pc 413 || Nat.beq pc 436 || Nat.beq pc 469 || Nat.beq pc 502 || Nat.beq pc 535 || Nat.beq pc 568 || Nat.beq pc 581 || Nat.beq pc 604 || Nat.beq pc 617 || Nat.beq pc 640 || Nat.beq pc 673 || Nat.beq pc 686 || Nat.beq pc 709 || Nat.beq pc 732 || Nat.beq pc 745 || Nat.beq pc 758 || Nat.beq pc 771 || Nat.beq pc 784 || Nat.beq pc 798) 1000 false (And.intro (fun c1 => (H1 c1)) (fun c2 => (And.intro rfl (H2 c2))))
/-- SnapshotRingsLaw.law from 612 -/
theorem r_L_law_612 {v0 : Nat} {v1 : Nat} {v2 : Nat} {v3 : Int32} {s0 : Int32} {s1 : Int32} {h : sn_H} {Q : Option Value → sn_H → Prop}
    (H1 : s0 = s1 → wpE 174 798 [some (.ref v0), some (.ref v1), some (.ref v2), some (.int v3)] [] h (110, 9460) Q)
    (H2 : ¬ s0 = s1 → Q (some (.int (nI 0))) h) :
    wpE 174 612 [some (.ref v0), some (.ref v1), some (.ref v2), some (.int v3)] [.int s1, .int s0] h (110, 9460) Q :=
  vc_s (ct := fun pc => Nat.beq pc 3 || Nat.beq pc 11 || Nat.beq pc 18 || Nat.beq pc 156 || Nat.beq pc 179 || Nat.beq pc 222 || Nat.beq pc 245 || Nat.beq pc 278 || Nat.beq pc 321 || Nat.beq pc 344 || Nat.beq pc 367 || Nat.beq pc 390 || Nat.beq pc 413 || Nat.beq pc 436 || Nat.beq pc 469 || Nat.beq pc 502 || Nat.beq pc 535 || Nat.beq pc 568 || Nat.beq pc 581 || Nat.beq pc 604 || Nat.beq pc 617 || Nat.beq pc 640 || Nat.beq pc 673 || Nat.beq pc 686 || Nat.beq pc 709 || Nat.beq pc 732 || Nat.beq pc 745 || Nat.beq pc 758 || Nat.beq pc 771 || Nat.beq pc 784 || Nat.beq pc 798) 1000 false (And.intro (fun c1 => (H1 c1)) (fun c2 => (And.intro rfl (H2 c2))))
/-- SnapshotRingsLaw.law from 635 -/
theorem r_L_law_635 {v0 : Nat} {v1 : Nat} {v2 : Nat} {v3 : Int32} {s0 : Int32} {s1 : Int32} {h : sn_H} {Q : Option Value → sn_H → Prop}
    (H1 : s0 = s1 → wpE 174 798 [some (.ref v0), some (.ref v1), some (.ref v2), some (.int v3)] [] h (110, 9460) Q)
    (H2 : ¬ s0 = s1 → Q (some (.int (nI 0))) h) :
    wpE 174 635 [some (.ref v0), some (.ref v1), some (.ref v2), some (.int v3)] [.int s1, .int s0] h (110, 9460) Q :=
  vc_s (ct := fun pc => Nat.beq pc 3 || Nat.beq pc 11 || Nat.beq pc 18 || Nat.beq pc 156 || Nat.beq pc 179 || Nat.beq pc 222 || Nat.beq pc 245 || Nat.beq pc 278 || Nat.beq pc 321 || Nat.beq pc 344 || Nat.beq pc 367 || Nat.beq pc 390 || Nat.beq pc 413 || Nat.beq pc 436 || Nat.beq pc 469 || Nat.beq pc 502 || Nat.beq pc 535 || Nat.beq pc 568 || Nat.beq pc 581 || Nat.beq pc 604 || Nat.beq pc 617 || Nat.beq pc 640 || Nat.beq pc 673 || Nat.beq pc 686 || Nat.beq pc 709 || Nat.beq pc 732 || Nat.beq pc 745 || Nat.beq pc 758 || Nat.beq pc 771 || Nat.beq pc 784 || Nat.beq pc 798) 1000 false (And.intro (fun c1 => (H1 c1)) (fun c2 => (And.intro rfl (H2 c2))))
/-- SnapshotRingsLaw.law from 668 -/
theorem r_L_law_668 {v0 : Nat} {v1 : Nat} {v2 : Nat} {v3 : Int32} {s0 : Int32} {s1 : Int32} {h : sn_H} {Q : Option Value → sn_H → Prop}
    (H1 : s0 = s1 → wpE 174 798 [some (.ref v0), some (.ref v1), some (.ref v2), some (.int v3)] [] h (110, 9460) Q)
    (H2 : ¬ s0 = s1 → Q (some (.int (nI 0))) h) :
    wpE 174 668 [some (.ref v0), some (.ref v1), some (.ref v2), some (.int v3)] [.int s1, .int s0] h (110, 9460) Q :=
  vc_s (ct := fun pc => Nat.beq pc 3 || Nat.beq pc 11 || Nat.beq pc 18 || Nat.beq pc 156 || Nat.beq pc 179 || Nat.beq pc 222 || Nat.beq pc 245 || Nat.beq pc 278 || Nat.beq pc 321 || Nat.beq pc 344 || Nat.beq pc 367 || Nat.beq pc 390 || Nat.beq pc 413 || Nat.beq pc 436 || Nat.beq pc 469 || Nat.beq pc 502 || Nat.beq pc 535 || Nat.beq pc 568 || Nat.beq pc 581 || Nat.beq pc 604 || Nat.beq pc 617 || Nat.beq pc 640 || Nat.beq pc 673 || Nat.beq pc 686 || Nat.beq pc 709 || Nat.beq pc 732 || Nat.beq pc 745 || Nat.beq pc 758 || Nat.beq pc 771 || Nat.beq pc 784 || Nat.beq pc 798) 1000 false (And.intro (fun c1 => (H1 c1)) (fun c2 => (And.intro rfl (H2 c2))))
/-- SnapshotRingsLaw.law from 681 -/
theorem r_L_law_681 {v0 : Nat} {v1 : Nat} {v2 : Nat} {v3 : Int32} {s0 : Int32} {s1 : Int32} {h : sn_H} {Q : Option Value → sn_H → Prop}
    (H1 : s0 = s1 → wpE 174 798 [some (.ref v0), some (.ref v1), some (.ref v2), some (.int v3)] [] h (110, 9460) Q)
    (H2 : ¬ s0 = s1 → Q (some (.int (nI 0))) h) :
    wpE 174 681 [some (.ref v0), some (.ref v1), some (.ref v2), some (.int v3)] [.int s1, .int s0] h (110, 9460) Q :=
  vc_s (ct := fun pc => Nat.beq pc 3 || Nat.beq pc 11 || Nat.beq pc 18 || Nat.beq pc 156 || Nat.beq pc 179 || Nat.beq pc 222 || Nat.beq pc 245 || Nat.beq pc 278 || Nat.beq pc 321 || Nat.beq pc 344 || Nat.beq pc 367 || Nat.beq pc 390 || Nat.beq pc 413 || Nat.beq pc 436 || Nat.beq pc 469 || Nat.beq pc 502 || Nat.beq pc 535 || Nat.beq pc 568 || Nat.beq pc 581 || Nat.beq pc 604 || Nat.beq pc 617 || Nat.beq pc 640 || Nat.beq pc 673 || Nat.beq pc 686 || Nat.beq pc 709 || Nat.beq pc 732 || Nat.beq pc 745 || Nat.beq pc 758 || Nat.beq pc 771 || Nat.beq pc 784 || Nat.beq pc 798) 1000 false (And.intro (fun c1 => (H1 c1)) (fun c2 => (And.intro rfl (H2 c2))))
/-- SnapshotRingsLaw.law from 704 -/
theorem r_L_law_704 {v0 : Nat} {v1 : Nat} {v2 : Nat} {v3 : Int32} {s0 : Int32} {s1 : Int32} {h : sn_H} {Q : Option Value → sn_H → Prop}
    (H1 : s0 = s1 → wpE 174 798 [some (.ref v0), some (.ref v1), some (.ref v2), some (.int v3)] [] h (110, 9460) Q)
    (H2 : ¬ s0 = s1 → Q (some (.int (nI 0))) h) :
    wpE 174 704 [some (.ref v0), some (.ref v1), some (.ref v2), some (.int v3)] [.int s1, .int s0] h (110, 9460) Q :=
  vc_s (ct := fun pc => Nat.beq pc 3 || Nat.beq pc 11 || Nat.beq pc 18 || Nat.beq pc 156 || Nat.beq pc 179 || Nat.beq pc 222 || Nat.beq pc 245 || Nat.beq pc 278 || Nat.beq pc 321 || Nat.beq pc 344 || Nat.beq pc 367 || Nat.beq pc 390 || Nat.beq pc 413 || Nat.beq pc 436 || Nat.beq pc 469 || Nat.beq pc 502 || Nat.beq pc 535 || Nat.beq pc 568 || Nat.beq pc 581 || Nat.beq pc 604 || Nat.beq pc 617 || Nat.beq pc 640 || Nat.beq pc 673 || Nat.beq pc 686 || Nat.beq pc 709 || Nat.beq pc 732 || Nat.beq pc 745 || Nat.beq pc 758 || Nat.beq pc 771 || Nat.beq pc 784 || Nat.beq pc 798) 1000 false (And.intro (fun c1 => (H1 c1)) (fun c2 => (And.intro rfl (H2 c2))))
/-- SnapshotRingsLaw.law from 727 -/
theorem r_L_law_727 {v0 : Nat} {v1 : Nat} {v2 : Nat} {v3 : Int32} {s0 : Int32} {s1 : Int32} {h : sn_H} {Q : Option Value → sn_H → Prop}
    (H1 : s0 = s1 → wpE 174 798 [some (.ref v0), some (.ref v1), some (.ref v2), some (.int v3)] [] h (110, 9460) Q)
    (H2 : ¬ s0 = s1 → Q (some (.int (nI 0))) h) :
    wpE 174 727 [some (.ref v0), some (.ref v1), some (.ref v2), some (.int v3)] [.int s1, .int s0] h (110, 9460) Q :=
  vc_s (ct := fun pc => Nat.beq pc 3 || Nat.beq pc 11 || Nat.beq pc 18 || Nat.beq pc 156 || Nat.beq pc 179 || Nat.beq pc 222 || Nat.beq pc 245 || Nat.beq pc 278 || Nat.beq pc 321 || Nat.beq pc 344 || Nat.beq pc 367 || Nat.beq pc 390 || Nat.beq pc 413 || Nat.beq pc 436 || Nat.beq pc 469 || Nat.beq pc 502 || Nat.beq pc 535 || Nat.beq pc 568 || Nat.beq pc 581 || Nat.beq pc 604 || Nat.beq pc 617 || Nat.beq pc 640 || Nat.beq pc 673 || Nat.beq pc 686 || Nat.beq pc 709 || Nat.beq pc 732 || Nat.beq pc 745 || Nat.beq pc 758 || Nat.beq pc 771 || Nat.beq pc 784 || Nat.beq pc 798) 1000 false (And.intro (fun c1 => (H1 c1)) (fun c2 => (And.intro rfl (H2 c2))))
/-- SnapshotRingsLaw.law from 740 -/
theorem r_L_law_740 {v0 : Nat} {v1 : Nat} {v2 : Nat} {v3 : Int32} {s0 : Int32} {s1 : Int32} {h : sn_H} {Q : Option Value → sn_H → Prop}
    (H1 : s0 = s1 → wpE 174 798 [some (.ref v0), some (.ref v1), some (.ref v2), some (.int v3)] [] h (110, 9460) Q)
    (H2 : ¬ s0 = s1 → Q (some (.int (nI 0))) h) :
    wpE 174 740 [some (.ref v0), some (.ref v1), some (.ref v2), some (.int v3)] [.int s1, .int s0] h (110, 9460) Q :=
  vc_s (ct := fun pc => Nat.beq pc 3 || Nat.beq pc 11 || Nat.beq pc 18 || Nat.beq pc 156 || Nat.beq pc 179 || Nat.beq pc 222 || Nat.beq pc 245 || Nat.beq pc 278 || Nat.beq pc 321 || Nat.beq pc 344 || Nat.beq pc 367 || Nat.beq pc 390 || Nat.beq pc 413 || Nat.beq pc 436 || Nat.beq pc 469 || Nat.beq pc 502 || Nat.beq pc 535 || Nat.beq pc 568 || Nat.beq pc 581 || Nat.beq pc 604 || Nat.beq pc 617 || Nat.beq pc 640 || Nat.beq pc 673 || Nat.beq pc 686 || Nat.beq pc 709 || Nat.beq pc 732 || Nat.beq pc 745 || Nat.beq pc 758 || Nat.beq pc 771 || Nat.beq pc 784 || Nat.beq pc 798) 1000 false (And.intro (fun c1 => (H1 c1)) (fun c2 => (And.intro rfl (H2 c2))))
/-- SnapshotRingsLaw.law from 753 -/
theorem r_L_law_753 {v0 : Nat} {v1 : Nat} {v2 : Nat} {v3 : Int32} {s0 : Int32} {s1 : Int32} {h : sn_H} {Q : Option Value → sn_H → Prop}
    (H1 : s0 = s1 → wpE 174 798 [some (.ref v0), some (.ref v1), some (.ref v2), some (.int v3)] [] h (110, 9460) Q)
    (H2 : ¬ s0 = s1 → Q (some (.int (nI 0))) h) :
    wpE 174 753 [some (.ref v0), some (.ref v1), some (.ref v2), some (.int v3)] [.int s1, .int s0] h (110, 9460) Q :=
  vc_s (ct := fun pc => Nat.beq pc 3 || Nat.beq pc 11 || Nat.beq pc 18 || Nat.beq pc 156 || Nat.beq pc 179 || Nat.beq pc 222 || Nat.beq pc 245 || Nat.beq pc 278 || Nat.beq pc 321 || Nat.beq pc 344 || Nat.beq pc 367 || Nat.beq pc 390 || Nat.beq pc 413 || Nat.beq pc 436 || Nat.beq pc 469 || Nat.beq pc 502 || Nat.beq pc 535 || Nat.beq pc 568 || Nat.beq pc 581 || Nat.beq pc 604 || Nat.beq pc 617 || Nat.beq pc 640 || Nat.beq pc 673 || Nat.beq pc 686 || Nat.beq pc 709 || Nat.beq pc 732 || Nat.beq pc 745 || Nat.beq pc 758 || Nat.beq pc 771 || Nat.beq pc 784 || Nat.beq pc 798) 1000 false (And.intro (fun c1 => (H1 c1)) (fun c2 => (And.intro rfl (H2 c2))))
/-- SnapshotRingsLaw.law from 766 -/
theorem r_L_law_766 {v0 : Nat} {v1 : Nat} {v2 : Nat} {v3 : Int32} {s0 : Int32} {s1 : Int32} {h : sn_H} {Q : Option Value → sn_H → Prop}
    (H1 : s0 = s1 → wpE 174 798 [some (.ref v0), some (.ref v1), some (.ref v2), some (.int v3)] [] h (110, 9460) Q)
    (H2 : ¬ s0 = s1 → Q (some (.int (nI 0))) h) :
    wpE 174 766 [some (.ref v0), some (.ref v1), some (.ref v2), some (.int v3)] [.int s1, .int s0] h (110, 9460) Q :=
  vc_s (ct := fun pc => Nat.beq pc 3 || Nat.beq pc 11 || Nat.beq pc 18 || Nat.beq pc 156 || Nat.beq pc 179 || Nat.beq pc 222 || Nat.beq pc 245 || Nat.beq pc 278 || Nat.beq pc 321 || Nat.beq pc 344 || Nat.beq pc 367 || Nat.beq pc 390 || Nat.beq pc 413 || Nat.beq pc 436 || Nat.beq pc 469 || Nat.beq pc 502 || Nat.beq pc 535 || Nat.beq pc 568 || Nat.beq pc 581 || Nat.beq pc 604 || Nat.beq pc 617 || Nat.beq pc 640 || Nat.beq pc 673 || Nat.beq pc 686 || Nat.beq pc 709 || Nat.beq pc 732 || Nat.beq pc 745 || Nat.beq pc 758 || Nat.beq pc 771 || Nat.beq pc 784 || Nat.beq pc 798) 1000 false (And.intro (fun c1 => (H1 c1)) (fun c2 => (And.intro rfl (H2 c2))))
/-- SnapshotRingsLaw.law from 779 -/
theorem r_L_law_779 {v0 : Nat} {v1 : Nat} {v2 : Nat} {v3 : Int32} {s0 : Int32} {s1 : Int32} {h : sn_H} {Q : Option Value → sn_H → Prop}
    (H1 : s0 = s1 → wpE 174 798 [some (.ref v0), some (.ref v1), some (.ref v2), some (.int v3)] [] h (110, 9460) Q)
    (H2 : ¬ s0 = s1 → Q (some (.int (nI 0))) h) :
    wpE 174 779 [some (.ref v0), some (.ref v1), some (.ref v2), some (.int v3)] [.int s1, .int s0] h (110, 9460) Q :=
  vc_s (ct := fun pc => Nat.beq pc 3 || Nat.beq pc 11 || Nat.beq pc 18 || Nat.beq pc 156 || Nat.beq pc 179 || Nat.beq pc 222 || Nat.beq pc 245 || Nat.beq pc 278 || Nat.beq pc 321 || Nat.beq pc 344 || Nat.beq pc 367 || Nat.beq pc 390 || Nat.beq pc 413 || Nat.beq pc 436 || Nat.beq pc 469 || Nat.beq pc 502 || Nat.beq pc 535 || Nat.beq pc 568 || Nat.beq pc 581 || Nat.beq pc 604 || Nat.beq pc 617 || Nat.beq pc 640 || Nat.beq pc 673 || Nat.beq pc 686 || Nat.beq pc 709 || Nat.beq pc 732 || Nat.beq pc 745 || Nat.beq pc 758 || Nat.beq pc 771 || Nat.beq pc 784 || Nat.beq pc 798) 1000 false (And.intro (fun c1 => (H1 c1)) (fun c2 => (And.intro rfl (H2 c2))))
/-- SnapshotRingsLaw.law from 792 -/
theorem r_L_law_792 {v0 : Nat} {v1 : Nat} {v2 : Nat} {v3 : Int32} {s0 : Int64} {s1 : Int64} {h : sn_H} {Q : Option Value → sn_H → Prop}
    (H1 : (lg_cmp s0 s1) = 0 → wpE 174 798 [some (.ref v0), some (.ref v1), some (.ref v2), some (.int v3)] [] h (110, 9460) Q)
    (H2 : ¬ (lg_cmp s0 s1) = 0 → Q (some (.int (nI 0))) h) :
    wpE 174 792 [some (.ref v0), some (.ref v1), some (.ref v2), some (.int v3)] [.long s1, .long s0] h (110, 9460) Q :=
  vc_s (ct := fun pc => Nat.beq pc 3 || Nat.beq pc 11 || Nat.beq pc 18 || Nat.beq pc 156 || Nat.beq pc 179 || Nat.beq pc 222 || Nat.beq pc 245 || Nat.beq pc 278 || Nat.beq pc 321 || Nat.beq pc 344 || Nat.beq pc 367 || Nat.beq pc 390 || Nat.beq pc 413 || Nat.beq pc 436 || Nat.beq pc 469 || Nat.beq pc 502 || Nat.beq pc 535 || Nat.beq pc 568 || Nat.beq pc 581 || Nat.beq pc 604 || Nat.beq pc 617 || Nat.beq pc 640 || Nat.beq pc 673 || Nat.beq pc 686 || Nat.beq pc 709 || Nat.beq pc 732 || Nat.beq pc 745 || Nat.beq pc 758 || Nat.beq pc 771 || Nat.beq pc 784 || Nat.beq pc 798) 1000 false (And.intro (fun c1 => (H1 c1)) (fun c2 => (And.intro rfl (H2 c2))))
