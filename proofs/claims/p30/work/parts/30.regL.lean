/-! ===== regions of the methods, printed by wip/genp/mkregions.py ===== -/
/-- SnapshotRingsLaw.cell from 0 -/
theorem r_L_cell_0 {v0 : Nat} {v1 : Int32} {n1 : Nat} {h : sn_H} {Q : Option Value → sn_H → Prop}
    (k1 : hK h v0 = (1, 1, n1))
    (H1 : (nI n1) ≤ v1 → Q (some (.int ((nI 1033861969 * (v1 + nI 1)) + nI 684254375))) h)
    (B2 : ¬ (nI n1) ≤ v1 → vp_in v1 n1)
    (H3 : ¬ (nI n1) ≤ v1 → Q (some (.int (hG h v0 v1.toNatClampNeg))) h) :
    wpE 48 0 [some (.ref v0), some (.int v1)] [] h (0, 0) Q :=
  vc_s (ct := fun _ => false) 1000 false (Exists.intro 1 (Exists.intro n1 (And.intro k1 (And.intro (fun c1 => (H1 c1)) (fun c2 => (Exists.intro 1 (Exists.intro n1 (And.intro k1 (And.intro (B2 c2) (H3 c2))))))))))
/-- SnapshotRingsLaw.low from 0 -/
theorem r_L_low_0 {v0 : Int32} {v1 : Int32} {h : sn_H} {Q : Option Value → sn_H → Prop}
    (B1 : ¬ v1 = 0)
    (H2 : Q (some (.int ((v0 &&& nI 2147483647) - (v0 &&& nI 2147483647) / v1 * v1))) h) :
    wpE 49 0 [some (.int v0), some (.int v1)] [] h (0, 0) Q :=
  vc_s (ct := fun _ => false) 1000 false (And.intro B1 H2)
/-- SnapshotRingsLaw.version from 0 -/
theorem r_L_version_0 {v0 : Int32} {v1 : Int32} {v2 : Nat} {h : sn_H} {Q : Option Value → sn_H → Prop}
    (H1 : wpE 52 5 [some (.int v0), some (.int v1), some (.ref v2), some (.int (nI 0)), some (.int (nI 1))] [] h (0, 0) Q) :
    wpE 52 0 [some (.int v0), some (.int v1), some (.ref v2), none, none] [] h (0, 0) Q :=
  vc_s (ct := fun pc => Nat.beq pc 5) 1000 false (And.intro (Nat.le_of_ble_eq_true rfl) (And.intro (Nat.le_of_ble_eq_true rfl) H1))
/-- SnapshotRingsLaw.version from 5 -/
theorem r_L_version_5 {v0 : Int32} {v1 : Int32} {v2 : Nat} {v3 : Int32} {v4 : Int32} {n1 : Nat} {h : sn_H} {Q : Option Value → sn_H → Prop}
    (k1 : hK h v2 = (1, 0, n1))
    (H1 : v1 < v4 → Q (some (.int v3)) h)
    (B2 : ¬ v1 < v4 → vp_in (nI 32 + v4) n1)
    (H3 : ¬ v1 < v4 → ¬ (((hG h v2 (nI 32 + v4).toNatClampNeg) >>> (v0 &&& 31)) &&& nI 1) = nI 1 → wpE 52 5 [some (.int v0), some (.int v1), some (.ref v2), some (.int v3), some (.int (v4 + nI 1))] [] h (0, 0) Q)
    (H4 : ¬ v1 < v4 → (((hG h v2 (nI 32 + v4).toNatClampNeg) >>> (v0 &&& 31)) &&& nI 1) = nI 1 → wpE 52 5 [some (.int v0), some (.int v1), some (.ref v2), some (.int v4), some (.int (v4 + nI 1))] [] h (0, 0) Q) :
    wpE 52 5 [some (.int v0), some (.int v1), some (.ref v2), some (.int v3), some (.int v4)] [] h (0, 0) Q :=
  vc_s (ct := fun pc => Nat.beq pc 5) 1000 false (And.intro (fun c1 => (H1 c1)) (fun c2 => (Exists.intro 0 (Exists.intro n1 (And.intro k1 (And.intro (B2 c2) (And.intro (fun c3 => (And.intro (Nat.le_of_ble_eq_true rfl) (And.intro (Nat.le_of_ble_eq_true rfl) (H3 c2 c3)))) (fun c4 => (And.intro (Nat.le_of_ble_eq_true rfl) (And.intro (Nat.le_of_ble_eq_true rfl) (H4 c2 c4)))))))))))
/-- SnapshotRingsLaw.part from 0 -/
theorem r_L_part_0 {v0 : Int32} {v1 : Int32} {v2 : Int32} {v3 : Nat} {v4 : Nat} {v5 : Nat} {n1 : Nat} {n2 : Nat} {n3 : Nat} {h : sn_H} {Q : Option Value → sn_H → Prop}
    (k1 : hK h v3 = (1, 0, n1))
    (k2 : hK h v4 = (1, 0, n2))
    (k3 : hK h v5 = (1, 0, n3))
    (B1 : vp_in (nI 0) n1)
    (B2 : v0 ≤ (hG h v3 (nI 0).toNatClampNeg) → vp_in ((nI 16 * v2) + v0) n2)
    (H3 : v0 ≤ (hG h v3 (nI 0).toNatClampNeg) → Q (some (.int (hG h v4 ((nI 16 * v2) + v0).toNatClampNeg))) h)
    (B4 : ¬ v0 ≤ (hG h v3 (nI 0).toNatClampNeg) → vp_in ((nI 3 * v1) + v2) n3)
    (H5 : ¬ v0 ≤ (hG h v3 (nI 0).toNatClampNeg) → Q (some (.int (hG h v5 ((nI 3 * v1) + v2).toNatClampNeg))) h) :
    wpE 55 0 [some (.int v0), some (.int v1), some (.int v2), some (.ref v3), some (.ref v4), some (.ref v5)] [] h (0, 0) Q :=
  vc_s (ct := fun _ => false) 1000 false (Exists.intro 0 (Exists.intro n1 (And.intro k1 (And.intro B1 (And.intro (fun c1 => (Exists.intro 0 (Exists.intro n2 (And.intro k2 (And.intro (B2 c1) (H3 c1)))))) (fun c2 => (Exists.intro 0 (Exists.intro n3 (And.intro k3 (And.intro (B4 c2) (H5 c2)))))))))))
/-- SnapshotRingsLaw.depends from 0 -/
theorem r_L_depends_0 {v0 : Int32} {v1 : Int32} {v2 : Int32} {v3 : Nat} {v4 : Nat} {v5 : Nat} {h : sn_H} {Q : Option Value → sn_H → Prop}
    (H1 : v1 ≤ v0 → wpE 54 43 [some (.int v0), some (.int v1), some (.int v2), some (.ref v3), some (.ref v4), some (.ref v5), some (.int (nI 0)), some (.int (nI 0)), none, none, none, none] [] h (0, 0) Q)
    (H2 : ¬ v1 ≤ v0 → wpE 55 0 [some (.int v0), some (.int v2), some (.int (nI 2)), some (.ref v3), some (.ref v4), some (.ref v5)] [] h (0, 0) (fun r hh => wpE 54 19 [some (.int v0), some (.int v1), some (.int v2), some (.ref v3), some (.ref v4), some (.ref v5), some (.int (nI 0)), none, none, none, none, none] (r.toList ++ []) hh (0, 0) Q)) :
    wpE 54 0 [some (.int v0), some (.int v1), some (.int v2), some (.ref v3), some (.ref v4), some (.ref v5), none, none, none, none, none, none] [] h (0, 0) Q :=
  vc_s (ct := fun pc => Nat.beq pc 43 || Nat.beq pc 157 || Nat.beq pc 195 || Nat.beq pc 233) 1000 false (And.intro (Nat.le_of_ble_eq_true rfl) (And.intro (fun c1 => (And.intro (Nat.le_of_ble_eq_true rfl) (H1 c1))) (fun c2 => (And.intro (Nat.le_of_ble_eq_true rfl) (And.intro (Nat.le_of_ble_eq_true rfl) (And.intro (Nat.le_of_ble_eq_true rfl) (And.intro (Nat.le_of_ble_eq_true rfl) (H2 c2))))))))
/-- SnapshotRingsLaw.depends from 43 -/
theorem r_L_depends_43 {v0 : Int32} {v1 : Int32} {v2 : Int32} {v3 : Nat} {v4 : Nat} {v5 : Nat} {v6 : Int32} {v7 : Int32} {h : sn_H} {Q : Option Value → sn_H → Prop}
    (H1 : nI 4 ≤ v7 → Q (some (.int v6)) h)
    (H2 : ¬ nI 4 ≤ v7 → wpE 55 0 [some (.int v0), some (.int v2), some (.int (nI 1)), some (.ref v3), some (.ref v4), some (.ref v5)] [] h (0, 0) (fun r hh => wpE 54 60 [some (.int v0), some (.int v1), some (.int v2), some (.ref v3), some (.ref v4), some (.ref v5), some (.int v6), some (.int v7), none, none, none, none] (r.toList ++ []) hh (0, 0) Q)) :
    wpE 54 43 [some (.int v0), some (.int v1), some (.int v2), some (.ref v3), some (.ref v4), some (.ref v5), some (.int v6), some (.int v7), none, none, none, none] [] h (0, 0) Q :=
  vc_s (ct := fun pc => Nat.beq pc 43 || Nat.beq pc 157 || Nat.beq pc 195 || Nat.beq pc 233) 1000 false (And.intro (fun c1 => (H1 c1)) (fun c2 => (And.intro (Nat.le_of_ble_eq_true rfl) (And.intro (Nat.le_of_ble_eq_true rfl) (And.intro (Nat.le_of_ble_eq_true rfl) (And.intro (Nat.le_of_ble_eq_true rfl) (H2 c2)))))))
/-- SnapshotRingsLaw.depends from 19 -/
theorem r_L_depends_19 {v0 : Int32} {v1 : Int32} {v2 : Int32} {v3 : Nat} {v4 : Nat} {v5 : Nat} {v6 : Int32} {s0 : Int32} {h : sn_H} {Q : Option Value → sn_H → Prop}
    (H1 : wpE 55 0 [some (.int v1), some (.int v2), some (.int (nI 2)), some (.ref v3), some (.ref v4), some (.ref v5)] [] h (0, 0) (fun r hh => wpE 54 30 [some (.int v0), some (.int v1), some (.int v2), some (.ref v3), some (.ref v4), some (.ref v5), some (.int v6), none, none, none, none, none] (r.toList ++ [.int s0]) hh (0, 0) Q)) :
    wpE 54 19 [some (.int v0), some (.int v1), some (.int v2), some (.ref v3), some (.ref v4), some (.ref v5), some (.int v6), none, none, none, none, none] [.int s0] h (0, 0) Q :=
  vc_s (ct := fun pc => Nat.beq pc 43 || Nat.beq pc 157 || Nat.beq pc 195 || Nat.beq pc 233) 1000 false (And.intro (Nat.le_of_ble_eq_true rfl) (And.intro (Nat.le_of_ble_eq_true rfl) (And.intro (Nat.le_of_ble_eq_true rfl) (And.intro (Nat.le_of_ble_eq_true rfl) H1))))
/-- SnapshotRingsLaw.depends from 60 -/
theorem r_L_depends_60 {v0 : Int32} {v1 : Int32} {v2 : Int32} {v3 : Nat} {v4 : Nat} {v5 : Nat} {v6 : Int32} {v7 : Int32} {s0 : Int32} {h : sn_H} {Q : Option Value → sn_H → Prop}
    (H1 : ¬ ((s0 >>> (v7 &&& 31)) &&& nI 1) = nI 1 → wpE 55 0 [some (.int v1), some (.int v2), some (.int (nI 1)), some (.ref v3), some (.ref v4), some (.ref v5)] [] h (0, 0) (fun r hh => wpE 54 87 [some (.int v0), some (.int v1), some (.int v2), some (.ref v3), some (.ref v4), some (.ref v5), some (.int v6), some (.int v7), some (.int (nI 0)), none, none, none] (r.toList ++ []) hh (0, 0) Q))
    (H2 : ((s0 >>> (v7 &&& 31)) &&& nI 1) = nI 1 → wpE 55 0 [some (.int v1), some (.int v2), some (.int (nI 1)), some (.ref v3), some (.ref v4), some (.ref v5)] [] h (0, 0) (fun r hh => wpE 54 87 [some (.int v0), some (.int v1), some (.int v2), some (.ref v3), some (.ref v4), some (.ref v5), some (.int v6), some (.int v7), some (.int (nI 1)), none, none, none] (r.toList ++ []) hh (0, 0) Q)) :
    wpE 54 60 [some (.int v0), some (.int v1), some (.int v2), some (.ref v3), some (.ref v4), some (.ref v5), some (.int v6), some (.int v7), none, none, none, none] [.int s0] h (0, 0) Q :=
  vc_s (ct := fun pc => Nat.beq pc 43 || Nat.beq pc 157 || Nat.beq pc 195 || Nat.beq pc 233) 1000 false (And.intro (fun c1 => (And.intro (Nat.le_of_ble_eq_true rfl) (And.intro (Nat.le_of_ble_eq_true rfl) (And.intro (Nat.le_of_ble_eq_true rfl) (And.intro (Nat.le_of_ble_eq_true rfl) (And.intro (Nat.le_of_ble_eq_true rfl) (H1 c1))))))) (fun c2 => (And.intro (Nat.le_of_ble_eq_true rfl) (And.intro (Nat.le_of_ble_eq_true rfl) (And.intro (Nat.le_of_ble_eq_true rfl) (And.intro (Nat.le_of_ble_eq_true rfl) (And.intro (Nat.le_of_ble_eq_true rfl) (H2 c2))))))))
/-- SnapshotRingsLaw.depends from 30 -/
theorem r_L_depends_30 {v0 : Int32} {v1 : Int32} {v2 : Int32} {v3 : Nat} {v4 : Nat} {v5 : Nat} {v6 : Int32} {s0 : Int32} {s1 : Int32} {h : sn_H} {Q : Option Value → sn_H → Prop}
    (H1 : (s0 &&& s1) = 0 → wpE 54 43 [some (.int v0), some (.int v1), some (.int v2), some (.ref v3), some (.ref v4), some (.ref v5), some (.int v6), some (.int (nI 0)), none, none, none, none] [] h (0, 0) Q)
    (H2 : ¬ (s0 &&& s1) = 0 → wpE 54 43 [some (.int v0), some (.int v1), some (.int v2), some (.ref v3), some (.ref v4), some (.ref v5), some (.int (v6 ||| nI 1)), some (.int (nI 0)), none, none, none, none] [] h (0, 0) Q) :
    wpE 54 30 [some (.int v0), some (.int v1), some (.int v2), some (.ref v3), some (.ref v4), some (.ref v5), some (.int v6), none, none, none, none, none] [.int s1, .int s0] h (0, 0) Q :=
  vc_s (ct := fun pc => Nat.beq pc 43 || Nat.beq pc 157 || Nat.beq pc 195 || Nat.beq pc 233) 1000 false (And.intro (fun c1 => (And.intro (Nat.le_of_ble_eq_true rfl) (H1 c1))) (fun c2 => (And.intro (Nat.le_of_ble_eq_true rfl) (And.intro (Nat.le_of_ble_eq_true rfl) (H2 c2)))))
/-- SnapshotRingsLaw.depends from 87 -/
theorem r_L_depends_87 {v0 : Int32} {v1 : Int32} {v2 : Int32} {v3 : Nat} {v4 : Nat} {v5 : Nat} {v6 : Int32} {v7 : Int32} {v8 : Int32} {s0 : Int32} {h : sn_H} {Q : Option Value → sn_H → Prop}
    (H1 : ¬ ((s0 >>> (v7 &&& 31)) &&& nI 1) = nI 1 → wpE 55 0 [some (.int v0), some (.int v2), some (.int (nI 2)), some (.ref v3), some (.ref v4), some (.ref v5)] [] h (0, 0) (fun r hh => wpE 54 114 [some (.int v0), some (.int v1), some (.int v2), some (.ref v3), some (.ref v4), some (.ref v5), some (.int v6), some (.int v7), some (.int v8), some (.int (nI 0)), none, none] (r.toList ++ []) hh (0, 0) Q))
    (H2 : ((s0 >>> (v7 &&& 31)) &&& nI 1) = nI 1 → wpE 55 0 [some (.int v0), some (.int v2), some (.int (nI 2)), some (.ref v3), some (.ref v4), some (.ref v5)] [] h (0, 0) (fun r hh => wpE 54 114 [some (.int v0), some (.int v1), some (.int v2), some (.ref v3), some (.ref v4), some (.ref v5), some (.int v6), some (.int v7), some (.int v8), some (.int (nI 1)), none, none] (r.toList ++ []) hh (0, 0) Q)) :
    wpE 54 87 [some (.int v0), some (.int v1), some (.int v2), some (.ref v3), some (.ref v4), some (.ref v5), some (.int v6), some (.int v7), some (.int v8), none, none, none] [.int s0] h (0, 0) Q :=
  vc_s (ct := fun pc => Nat.beq pc 43 || Nat.beq pc 157 || Nat.beq pc 195 || Nat.beq pc 233) 1000 false (And.intro (fun c1 => (And.intro (Nat.le_of_ble_eq_true rfl) (And.intro (Nat.le_of_ble_eq_true rfl) (And.intro (Nat.le_of_ble_eq_true rfl) (And.intro (Nat.le_of_ble_eq_true rfl) (And.intro (Nat.le_of_ble_eq_true rfl) (H1 c1))))))) (fun c2 => (And.intro (Nat.le_of_ble_eq_true rfl) (And.intro (Nat.le_of_ble_eq_true rfl) (And.intro (Nat.le_of_ble_eq_true rfl) (And.intro (Nat.le_of_ble_eq_true rfl) (And.intro (Nat.le_of_ble_eq_true rfl) (H2 c2))))))))
/-- SnapshotRingsLaw.depends from 114 -/
theorem r_L_depends_114 {v0 : Int32} {v1 : Int32} {v2 : Int32} {v3 : Nat} {v4 : Nat} {v5 : Nat} {v6 : Int32} {v7 : Int32} {v8 : Int32} {v9 : Int32} {s0 : Int32} {h : sn_H} {Q : Option Value → sn_H → Prop}
    (H1 : ¬ ((s0 >>> (v7 &&& 31)) &&& nI 1) = nI 1 → wpE 55 0 [some (.int v1), some (.int v2), some (.int (nI 2)), some (.ref v3), some (.ref v4), some (.ref v5)] [] h (0, 0) (fun r hh => wpE 54 141 [some (.int v0), some (.int v1), some (.int v2), some (.ref v3), some (.ref v4), some (.ref v5), some (.int v6), some (.int v7), some (.int v8), some (.int v9), some (.int (nI 0)), none] (r.toList ++ []) hh (0, 0) Q))
    (H2 : ((s0 >>> (v7 &&& 31)) &&& nI 1) = nI 1 → wpE 55 0 [some (.int v1), some (.int v2), some (.int (nI 2)), some (.ref v3), some (.ref v4), some (.ref v5)] [] h (0, 0) (fun r hh => wpE 54 141 [some (.int v0), some (.int v1), some (.int v2), some (.ref v3), some (.ref v4), some (.ref v5), some (.int v6), some (.int v7), some (.int v8), some (.int v9), some (.int (nI 1)), none] (r.toList ++ []) hh (0, 0) Q)) :
    wpE 54 114 [some (.int v0), some (.int v1), some (.int v2), some (.ref v3), some (.ref v4), some (.ref v5), some (.int v6), some (.int v7), some (.int v8), some (.int v9), none, none] [.int s0] h (0, 0) Q :=
  vc_s (ct := fun pc => Nat.beq pc 43 || Nat.beq pc 157 || Nat.beq pc 195 || Nat.beq pc 233) 1000 false (And.intro (fun c1 => (And.intro (Nat.le_of_ble_eq_true rfl) (And.intro (Nat.le_of_ble_eq_true rfl) (And.intro (Nat.le_of_ble_eq_true rfl) (And.intro (Nat.le_of_ble_eq_true rfl) (And.intro (Nat.le_of_ble_eq_true rfl) (H1 c1))))))) (fun c2 => (And.intro (Nat.le_of_ble_eq_true rfl) (And.intro (Nat.le_of_ble_eq_true rfl) (And.intro (Nat.le_of_ble_eq_true rfl) (And.intro (Nat.le_of_ble_eq_true rfl) (And.intro (Nat.le_of_ble_eq_true rfl) (H2 c2))))))))
/-- SnapshotRingsLaw.depends from 141 -/
theorem r_L_depends_141 {v0 : Int32} {v1 : Int32} {v2 : Int32} {v3 : Nat} {v4 : Nat} {v5 : Nat} {v6 : Int32} {v7 : Int32} {v8 : Int32} {v9 : Int32} {v10 : Int32} {s0 : Int32} {h : sn_H} {Q : Option Value → sn_H → Prop}
    (H1 : ¬ ((s0 >>> (v7 &&& 31)) &&& nI 1) = nI 1 → wpE 54 157 [some (.int v0), some (.int v1), some (.int v2), some (.ref v3), some (.ref v4), some (.ref v5), some (.int v6), some (.int v7), some (.int v8), some (.int v9), some (.int v10), some (.int (nI 0))] [] h (0, 0) Q)
    (H2 : ((s0 >>> (v7 &&& 31)) &&& nI 1) = nI 1 → wpE 54 157 [some (.int v0), some (.int v1), some (.int v2), some (.ref v3), some (.ref v4), some (.ref v5), some (.int v6), some (.int v7), some (.int v8), some (.int v9), some (.int v10), some (.int (nI 1))] [] h (0, 0) Q) :
    wpE 54 141 [some (.int v0), some (.int v1), some (.int v2), some (.ref v3), some (.ref v4), some (.ref v5), some (.int v6), some (.int v7), some (.int v8), some (.int v9), some (.int v10), none] [.int s0] h (0, 0) Q :=
  vc_s (ct := fun pc => Nat.beq pc 43 || Nat.beq pc 157 || Nat.beq pc 195 || Nat.beq pc 233) 1000 false (And.intro (fun c1 => (And.intro (Nat.le_of_ble_eq_true rfl) (H1 c1))) (fun c2 => (And.intro (Nat.le_of_ble_eq_true rfl) (H2 c2))))
/-- SnapshotRingsLaw.depends from 157 -/
theorem r_L_depends_157 {v0 : Int32} {v1 : Int32} {v2 : Int32} {v3 : Nat} {v4 : Nat} {v5 : Nat} {v6 : Int32} {v7 : Int32} {v8 : Int32} {v9 : Int32} {v10 : Int32} {v11 : Int32} {h : sn_H} {Q : Option Value → sn_H → Prop}
    (H1 : v10 = 0 → wpE 54 195 [some (.int v0), some (.int v1), some (.int v2), some (.ref v3), some (.ref v4), some (.ref v5), some (.int v6), some (.int v7), some (.int v8), none, none, some (.int v11)] [] h (0, 0) Q)
    (H2 : ¬ v10 = 0 → v9 = 0 → wpE 54 195 [some (.int v0), some (.int v1), some (.int v2), some (.ref v3), some (.ref v4), some (.ref v5), some (.int v6), some (.int v7), some (.int v8), none, none, some (.int v11)] [] h (0, 0) Q)
    (H3 : ¬ v10 = 0 → ¬ v9 = 0 → wpE 55 0 [some (.int v1), some (.int v2), some (.int (nI 0)), some (.ref v3), some (.ref v4), some (.ref v5)] [] h (0, 0) (fun r hh => wpE 54 180 [some (.int v0), some (.int v1), some (.int v2), some (.ref v3), some (.ref v4), some (.ref v5), some (.int v6), some (.int v7), some (.int v8), none, none, some (.int v11)] (r.toList ++ [.int v7]) hh (0, 0) Q)) :
    wpE 54 157 [some (.int v0), some (.int v1), some (.int v2), some (.ref v3), some (.ref v4), some (.ref v5), some (.int v6), some (.int v7), some (.int v8), some (.int v9), some (.int v10), some (.int v11)] [] h (0, 0) Q :=
  vc_s (ct := fun pc => Nat.beq pc 43 || Nat.beq pc 157 || Nat.beq pc 195 || Nat.beq pc 233) 1000 false (And.intro (fun c1 => (@wpE_w _ _ [some (.int v0), some (.int v1), some (.int v2), some (.ref v3), some (.ref v4), some (.ref v5), some (.int v6), some (.int v7), some (.int v8), none, none, some (.int v11)] _ _ _ _ _ (show LeL [some (.int v0), some (.int v1), some (.int v2), some (.ref v3), some (.ref v4), some (.ref v5), some (.int v6), some (.int v7), some (.int v8), none, none, some (.int v11)] [some (.int v0), some (.int v1), some (.int v2), some (.ref v3), some (.ref v4), some (.ref v5), some (.int v6), some (.int v7), some (.int v8), some (.int v9), some (.int v10), some (.int v11)] from (And.intro rfl (And.intro rfl (And.intro rfl (And.intro rfl (And.intro rfl (And.intro rfl (And.intro rfl (And.intro rfl (And.intro rfl (And.intro rfl trivial))))))))))) (H1 c1))) (fun c2 => (And.intro (fun c3 => (@wpE_w _ _ [some (.int v0), some (.int v1), some (.int v2), some (.ref v3), some (.ref v4), some (.ref v5), some (.int v6), some (.int v7), some (.int v8), none, none, some (.int v11)] _ _ _ _ _ (show LeL [some (.int v0), some (.int v1), some (.int v2), some (.ref v3), some (.ref v4), some (.ref v5), some (.int v6), some (.int v7), some (.int v8), none, none, some (.int v11)] [some (.int v0), some (.int v1), some (.int v2), some (.ref v3), some (.ref v4), some (.ref v5), some (.int v6), some (.int v7), some (.int v8), some (.int v9), some (.int v10), some (.int v11)] from (And.intro rfl (And.intro rfl (And.intro rfl (And.intro rfl (And.intro rfl (And.intro rfl (And.intro rfl (And.intro rfl (And.intro rfl (And.intro rfl trivial))))))))))) (H2 c2 c3))) (fun c4 => (And.intro (Nat.le_of_ble_eq_true rfl) (And.intro (Nat.le_of_ble_eq_true rfl) (And.intro (Nat.le_of_ble_eq_true rfl) (And.intro (Nat.le_of_ble_eq_true rfl) (wpE_m (fun _ _ HH => @wpE_w _ _ [some (.int v0), some (.int v1), some (.int v2), some (.ref v3), some (.ref v4), some (.ref v5), some (.int v6), some (.int v7), some (.int v8), none, none, some (.int v11)] _ _ _ _ _ (show LeL [some (.int v0), some (.int v1), some (.int v2), some (.ref v3), some (.ref v4), some (.ref v5), some (.int v6), some (.int v7), some (.int v8), none, none, some (.int v11)] [some (.int v0), some (.int v1), some (.int v2), some (.ref v3), some (.ref v4), some (.ref v5), some (.int v6), some (.int v7), some (.int v8), some (.int v9), some (.int v10), some (.int v11)] from (And.intro rfl (And.intro rfl (And.intro rfl (And.intro rfl (And.intro rfl (And.intro rfl (And.intro rfl (And.intro rfl (And.intro rfl (And.intro rfl trivial))))))))))) HH) (H3 c2 c4))))))))))
/-- SnapshotRingsLaw.depends from 195 -/
theorem r_L_depends_195 {v0 : Int32} {v1 : Int32} {v2 : Int32} {v3 : Nat} {v4 : Nat} {v5 : Nat} {v6 : Int32} {v7 : Int32} {v8 : Int32} {v11 : Int32} {h : sn_H} {Q : Option Value → sn_H → Prop}
    (H1 : v8 = 0 → wpE 54 233 [some (.int v0), some (.int v1), some (.int v2), some (.ref v3), some (.ref v4), some (.ref v5), some (.int v6), some (.int v7), none, none, none, none] [] h (0, 0) Q)
    (H2 : ¬ v8 = 0 → v11 = 0 → wpE 54 233 [some (.int v0), some (.int v1), some (.int v2), some (.ref v3), some (.ref v4), some (.ref v5), some (.int v6), some (.int v7), none, none, none, none] [] h (0, 0) Q)
    (H3 : ¬ v8 = 0 → ¬ v11 = 0 → wpE 55 0 [some (.int v0), some (.int v2), some (.int (nI 0)), some (.ref v3), some (.ref v4), some (.ref v5)] [] h (0, 0) (fun r hh => wpE 54 218 [some (.int v0), some (.int v1), some (.int v2), some (.ref v3), some (.ref v4), some (.ref v5), some (.int v6), some (.int v7), none, none, none, none] (r.toList ++ [.int v7]) hh (0, 0) Q)) :
    wpE 54 195 [some (.int v0), some (.int v1), some (.int v2), some (.ref v3), some (.ref v4), some (.ref v5), some (.int v6), some (.int v7), some (.int v8), none, none, some (.int v11)] [] h (0, 0) Q :=
  vc_s (ct := fun pc => Nat.beq pc 43 || Nat.beq pc 157 || Nat.beq pc 195 || Nat.beq pc 233) 1000 false (And.intro (fun c1 => (@wpE_w _ _ [some (.int v0), some (.int v1), some (.int v2), some (.ref v3), some (.ref v4), some (.ref v5), some (.int v6), some (.int v7), none, none, none, none] _ _ _ _ _ (show LeL [some (.int v0), some (.int v1), some (.int v2), some (.ref v3), some (.ref v4), some (.ref v5), some (.int v6), some (.int v7), none, none, none, none] [some (.int v0), some (.int v1), some (.int v2), some (.ref v3), some (.ref v4), some (.ref v5), some (.int v6), some (.int v7), some (.int v8), none, none, some (.int v11)] from (And.intro rfl (And.intro rfl (And.intro rfl (And.intro rfl (And.intro rfl (And.intro rfl (And.intro rfl (And.intro rfl trivial))))))))) (H1 c1))) (fun c2 => (And.intro (fun c3 => (@wpE_w _ _ [some (.int v0), some (.int v1), some (.int v2), some (.ref v3), some (.ref v4), some (.ref v5), some (.int v6), some (.int v7), none, none, none, none] _ _ _ _ _ (show LeL [some (.int v0), some (.int v1), some (.int v2), some (.ref v3), some (.ref v4), some (.ref v5), some (.int v6), some (.int v7), none, none, none, none] [some (.int v0), some (.int v1), some (.int v2), some (.ref v3), some (.ref v4), some (.ref v5), some (.int v6), some (.int v7), some (.int v8), none, none, some (.int v11)] from (And.intro rfl (And.intro rfl (And.intro rfl (And.intro rfl (And.intro rfl (And.intro rfl (And.intro rfl (And.intro rfl trivial))))))))) (H2 c2 c3))) (fun c4 => (And.intro (Nat.le_of_ble_eq_true rfl) (And.intro (Nat.le_of_ble_eq_true rfl) (And.intro (Nat.le_of_ble_eq_true rfl) (And.intro (Nat.le_of_ble_eq_true rfl) (wpE_m (fun _ _ HH => @wpE_w _ _ [some (.int v0), some (.int v1), some (.int v2), some (.ref v3), some (.ref v4), some (.ref v5), some (.int v6), some (.int v7), none, none, none, none] _ _ _ _ _ (show LeL [some (.int v0), some (.int v1), some (.int v2), some (.ref v3), some (.ref v4), some (.ref v5), some (.int v6), some (.int v7), none, none, none, none] [some (.int v0), some (.int v1), some (.int v2), some (.ref v3), some (.ref v4), some (.ref v5), some (.int v6), some (.int v7), some (.int v8), none, none, some (.int v11)] from (And.intro rfl (And.intro rfl (And.intro rfl (And.intro rfl (And.intro rfl (And.intro rfl (And.intro rfl (And.intro rfl trivial))))))))) HH) (H3 c2 c4))))))))))
/-- SnapshotRingsLaw.depends from 180 -/
theorem r_L_depends_180 {v0 : Int32} {v1 : Int32} {v2 : Int32} {v3 : Nat} {v4 : Nat} {v5 : Nat} {v6 : Int32} {v7 : Int32} {v8 : Int32} {v11 : Int32} {s0 : Int32} {s1 : Int32} {h : sn_H} {Q : Option Value → sn_H → Prop}
    (H1 : wpE 52 0 [some (.int s0), some (.int s1), some (.ref v4), none, none] [] h (0, 0) (fun r hh => wpE 54 185 [some (.int v0), some (.int v1), some (.int v2), some (.ref v3), some (.ref v4), some (.ref v5), some (.int v6), some (.int v7), some (.int v8), none, none, some (.int v11)] (r.toList ++ []) hh (0, 0) Q)) :
    wpE 54 180 [some (.int v0), some (.int v1), some (.int v2), some (.ref v3), some (.ref v4), some (.ref v5), some (.int v6), some (.int v7), some (.int v8), none, none, some (.int v11)] [.int s1, .int s0] h (0, 0) Q :=
  vc_s (ct := fun pc => Nat.beq pc 43 || Nat.beq pc 157 || Nat.beq pc 195 || Nat.beq pc 233) 1000 false (And.intro (Nat.le_of_ble_eq_true rfl) (And.intro (Nat.le_of_ble_eq_true rfl) (And.intro (Nat.le_of_ble_eq_true rfl) (And.intro (Nat.le_of_ble_eq_true rfl) H1))))
/-- SnapshotRingsLaw.depends from 233 -/
theorem r_L_depends_233 {v0 : Int32} {v1 : Int32} {v2 : Int32} {v3 : Nat} {v4 : Nat} {v5 : Nat} {v6 : Int32} {v7 : Int32} {h : sn_H} {Q : Option Value → sn_H → Prop}
    (H1 : wpE 54 43 [some (.int v0), some (.int v1), some (.int v2), some (.ref v3), some (.ref v4), some (.ref v5), some (.int v6), some (.int (v7 + nI 1)), none, none, none, none] [] h (0, 0) Q) :
    wpE 54 233 [some (.int v0), some (.int v1), some (.int v2), some (.ref v3), some (.ref v4), some (.ref v5), some (.int v6), some (.int v7), none, none, none, none] [] h (0, 0) Q :=
  vc_s (ct := fun pc => Nat.beq pc 43 || Nat.beq pc 157 || Nat.beq pc 195 || Nat.beq pc 233) 1000 false (And.intro (Nat.le_of_ble_eq_true rfl) H1)
/-- SnapshotRingsLaw.depends from 218 -/
theorem r_L_depends_218 {v0 : Int32} {v1 : Int32} {v2 : Int32} {v3 : Nat} {v4 : Nat} {v5 : Nat} {v6 : Int32} {v7 : Int32} {s0 : Int32} {s1 : Int32} {h : sn_H} {Q : Option Value → sn_H → Prop}
    (H1 : wpE 52 0 [some (.int s0), some (.int s1), some (.ref v4), none, none] [] h (0, 0) (fun r hh => wpE 54 223 [some (.int v0), some (.int v1), some (.int v2), some (.ref v3), some (.ref v4), some (.ref v5), some (.int v6), some (.int v7), none, none, none, none] (r.toList ++ []) hh (0, 0) Q)) :
    wpE 54 218 [some (.int v0), some (.int v1), some (.int v2), some (.ref v3), some (.ref v4), some (.ref v5), some (.int v6), some (.int v7), none, none, none, none] [.int s1, .int s0] h (0, 0) Q :=
  vc_s (ct := fun pc => Nat.beq pc 43 || Nat.beq pc 157 || Nat.beq pc 195 || Nat.beq pc 233) 1000 false (And.intro (Nat.le_of_ble_eq_true rfl) (And.intro (Nat.le_of_ble_eq_true rfl) (And.intro (Nat.le_of_ble_eq_true rfl) (And.intro (Nat.le_of_ble_eq_true rfl) H1))))
/-- SnapshotRingsLaw.depends from 185 -/
theorem r_L_depends_185 {v0 : Int32} {v1 : Int32} {v2 : Int32} {v3 : Nat} {v4 : Nat} {v5 : Nat} {v6 : Int32} {v7 : Int32} {v8 : Int32} {v11 : Int32} {s0 : Int32} {h : sn_H} {Q : Option Value → sn_H → Prop}
    (H1 : ¬ s0 = v0 → wpE 54 195 [some (.int v0), some (.int v1), some (.int v2), some (.ref v3), some (.ref v4), some (.ref v5), some (.int v6), some (.int v7), some (.int v8), none, none, some (.int v11)] [] h (0, 0) Q)
    (H2 : s0 = v0 → wpE 54 195 [some (.int v0), some (.int v1), some (.int v2), some (.ref v3), some (.ref v4), some (.ref v5), some (.int (v6 ||| nI 2)), some (.int v7), some (.int v8), none, none, some (.int v11)] [] h (0, 0) Q) :
    wpE 54 185 [some (.int v0), some (.int v1), some (.int v2), some (.ref v3), some (.ref v4), some (.ref v5), some (.int v6), some (.int v7), some (.int v8), none, none, some (.int v11)] [.int s0] h (0, 0) Q :=
  vc_s (ct := fun pc => Nat.beq pc 43 || Nat.beq pc 157 || Nat.beq pc 195 || Nat.beq pc 233) 1000 false (And.intro (fun c1 => (H1 c1)) (fun c2 => (And.intro (Nat.le_of_ble_eq_true rfl) (H2 c2))))
/-- SnapshotRingsLaw.depends from 223 -/
theorem r_L_depends_223 {v0 : Int32} {v1 : Int32} {v2 : Int32} {v3 : Nat} {v4 : Nat} {v5 : Nat} {v6 : Int32} {v7 : Int32} {s0 : Int32} {h : sn_H} {Q : Option Value → sn_H → Prop}
    (H1 : v1 ≤ s0 → wpE 54 233 [some (.int v0), some (.int v1), some (.int v2), some (.ref v3), some (.ref v4), some (.ref v5), some (.int v6), some (.int v7), none, none, none, none] [] h (0, 0) Q)
    (H2 : ¬ v1 ≤ s0 → wpE 54 233 [some (.int v0), some (.int v1), some (.int v2), some (.ref v3), some (.ref v4), some (.ref v5), some (.int (v6 ||| nI 4)), some (.int v7), none, none, none, none] [] h (0, 0) Q) :
    wpE 54 223 [some (.int v0), some (.int v1), some (.int v2), some (.ref v3), some (.ref v4), some (.ref v5), some (.int v6), some (.int v7), none, none, none, none] [.int s0] h (0, 0) Q :=
  vc_s (ct := fun pc => Nat.beq pc 43 || Nat.beq pc 157 || Nat.beq pc 195 || Nat.beq pc 233) 1000 false (And.intro (fun c1 => (H1 c1)) (fun c2 => (And.intro (Nat.le_of_ble_eq_true rfl) (H2 c2))))
/-- SnapshotRingsLaw.behind from 0 -/
theorem r_L_behind_0 {v0 : Int32} {v1 : Int32} {v2 : Nat} {v3 : Nat} {v4 : Nat} {h : sn_H} {Q : Option Value → sn_H → Prop}
    (H1 : wpE 53 4 [some (.int v0), some (.int v1), some (.ref v2), some (.ref v3), some (.ref v4), none, none, none, none] [.ref (hN h)] (allocH h (1, 0, 18)) (1, 18) Q) :
    wpE 53 0 [some (.int v0), some (.int v1), some (.ref v2), some (.ref v3), some (.ref v4), none, none, none, none] [] h (0, 0) Q :=
  vc_s (ct := fun pc => Nat.beq pc 4 || Nat.beq pc 24 || Nat.beq pc 34) 1000 false (Exists.intro 18 (And.intro rfl (And.intro (Nat.le_of_ble_eq_true rfl) (And.intro (Nat.le_of_ble_eq_true rfl) (And.intro (Nat.le_of_ble_eq_true rfl) H1)))))
/-- SnapshotRingsLaw.behind from 4 -/
theorem r_L_behind_4 {v0 : Int32} {v1 : Int32} {v2 : Nat} {v3 : Nat} {v4 : Nat} {s0 : Nat} {n1 : Nat} {h : sn_H} {Q : Option Value → sn_H → Prop}
    (k1 : hK h v2 = (1, 0, n1))
    (B1 : vp_in (nI 0) n1)
    (H2 : 0 ≤ v0 → wpE 53 24 [some (.int v0), some (.int v1), some (.ref v2), some (.ref v3), some (.ref v4), some (.ref s0), some (.int ((hG h v2 (nI 0).toNatClampNeg) + nI 1)), some (.int (nI 1)), none] [] h (1, 18) Q)
    (H3 : ¬ 0 ≤ v0 → wpE 53 24 [some (.int v0), some (.int v1), some (.ref v2), some (.ref v3), some (.ref v4), some (.ref s0), some (.int ((hG h v2 (nI 0).toNatClampNeg) + nI 0)), some (.int (nI 1)), none] [] h (1, 18) Q) :
    wpE 53 4 [some (.int v0), some (.int v1), some (.ref v2), some (.ref v3), some (.ref v4), none, none, none, none] [.ref s0] h (1, 18) Q :=
  vc_s (ct := fun pc => Nat.beq pc 4 || Nat.beq pc 24 || Nat.beq pc 34) 1000 false (And.intro (Nat.le_of_ble_eq_true rfl) (Exists.intro 0 (Exists.intro n1 (And.intro k1 (And.intro B1 (And.intro (fun c1 => (And.intro (Nat.le_of_ble_eq_true rfl) (And.intro (Nat.le_of_ble_eq_true rfl) (H2 c1)))) (fun c2 => (And.intro (Nat.le_of_ble_eq_true rfl) (And.intro (Nat.le_of_ble_eq_true rfl) (H3 c2))))))))))
/-- SnapshotRingsLaw.behind from 24 -/
theorem r_L_behind_24 {v0 : Int32} {v1 : Int32} {v2 : Nat} {v3 : Nat} {v4 : Nat} {v5 : Nat} {v6 : Int32} {v7 : Int32} {h : sn_H} {Q : Option Value → sn_H → Prop}
    (H1 : v6 < v7 → Q (some (.ref v5)) h)
    (H2 : ¬ v6 < v7 → wpE 53 34 [some (.int v0), some (.int v1), some (.ref v2), some (.ref v3), some (.ref v4), some (.ref v5), some (.int v6), some (.int v7), some (.int (nI 1))] [] h (1, 18) Q) :
    wpE 53 24 [some (.int v0), some (.int v1), some (.ref v2), some (.ref v3), some (.ref v4), some (.ref v5), some (.int v6), some (.int v7), none] [] h (1, 18) Q :=
  vc_s (ct := fun pc => Nat.beq pc 4 || Nat.beq pc 24 || Nat.beq pc 34) 1000 false (And.intro (fun c1 => (And.intro rfl (H1 c1))) (fun c2 => (And.intro (Nat.le_of_ble_eq_true rfl) (H2 c2))))
/-- SnapshotRingsLaw.behind from 34 -/
theorem r_L_behind_34 {v0 : Int32} {v1 : Int32} {v2 : Nat} {v3 : Nat} {v4 : Nat} {v5 : Nat} {v6 : Int32} {v7 : Int32} {v8 : Int32} {h : sn_H} {Q : Option Value → sn_H → Prop}
    (H1 : v6 < v8 → wpE 53 24 [some (.int v0), some (.int v1), some (.ref v2), some (.ref v3), some (.ref v4), some (.ref v5), some (.int v6), some (.int (v7 + nI 1)), none] [] h (1, 18) Q)
    (H2 : ¬ v6 < v8 → v7 = v8 → wpE 53 34 [some (.int v0), some (.int v1), some (.ref v2), some (.ref v3), some (.ref v4), some (.ref v5), some (.int v6), some (.int v7), some (.int (v8 + nI 1))] [] h (1, 18) Q)
    (H3 : ¬ v6 < v8 → ¬ v7 = v8 → wpE 54 0 [some (.int v7), some (.int v8), some (.int v0), some (.ref v2), some (.ref v3), some (.ref v4), none, none, none, none, none, none] [] h (0, 0) (fun r hh => wpE 53 60 [some (.int v0), some (.int v1), some (.ref v2), some (.ref v3), some (.ref v4), some (.ref v5), some (.int v6), some (.int v7), some (.int v8)] (r.toList ++ []) hh (1, 18) Q)) :
    wpE 53 34 [some (.int v0), some (.int v1), some (.ref v2), some (.ref v3), some (.ref v4), some (.ref v5), some (.int v6), some (.int v7), some (.int v8)] [] h (1, 18) Q :=
  vc_s (ct := fun pc => Nat.beq pc 4 || Nat.beq pc 24 || Nat.beq pc 34) 1000 false (And.intro (fun c1 => (And.intro (Nat.le_of_ble_eq_true rfl) (@wpE_w _ _ [some (.int v0), some (.int v1), some (.ref v2), some (.ref v3), some (.ref v4), some (.ref v5), some (.int v6), some (.int (v7 + nI 1)), none] _ _ _ _ _ (show LeL [some (.int v0), some (.int v1), some (.ref v2), some (.ref v3), some (.ref v4), some (.ref v5), some (.int v6), some (.int (v7 + nI 1)), none] [some (.int v0), some (.int v1), some (.ref v2), some (.ref v3), some (.ref v4), some (.ref v5), some (.int v6), some (.int (v7 + nI 1)), some (.int v8)] from (And.intro rfl (And.intro rfl (And.intro rfl (And.intro rfl (And.intro rfl (And.intro rfl (And.intro rfl (And.intro rfl trivial))))))))) (H1 c1)))) (fun c2 => (And.intro (fun c3 => (And.intro (Nat.le_of_ble_eq_true rfl) (H2 c2 c3))) (fun c4 => (And.intro (Nat.le_of_ble_eq_true rfl) (And.intro (Nat.le_of_ble_eq_true rfl) (And.intro (Nat.le_of_ble_eq_true rfl) (And.intro (Nat.le_of_ble_eq_true rfl) (H3 c2 c4)))))))))
/-- SnapshotRingsLaw.behind from 60 -/
theorem r_L_behind_60 {v0 : Int32} {v1 : Int32} {v2 : Nat} {v3 : Nat} {v4 : Nat} {v5 : Nat} {v6 : Int32} {v7 : Int32} {v8 : Int32} {s0 : Int32} {n1 : Nat} {h : sn_H} {Q : Option Value → sn_H → Prop}
    (k1 : hK h v5 = (1, 0, n1))
    (H1 : (s0 &&& v1) = 0 → wpE 53 34 [some (.int v0), some (.int v1), some (.ref v2), some (.ref v3), some (.ref v4), some (.ref v5), some (.int v6), some (.int v7), some (.int (v8 + nI 1))] [] h (1, 18) Q)
    (B2 : ¬ (s0 &&& v1) = 0 → vp_in v7 n1)
    (H3 : ¬ (s0 &&& v1) = 0 → wpE 53 34 [some (.int v0), some (.int v1), some (.ref v2), some (.ref v3), some (.ref v4), some (.ref v5), some (.int v6), some (.int v7), some (.int (v8 + nI 1))] [] (setG h v5 v7.toNatClampNeg ((hG h v5 v7.toNatClampNeg) ||| (nI 1 <<< (v8 &&& 31)))) (1, 18) Q) :
    wpE 53 60 [some (.int v0), some (.int v1), some (.ref v2), some (.ref v3), some (.ref v4), some (.ref v5), some (.int v6), some (.int v7), some (.int v8)] [.int s0] h (1, 18) Q :=
  vc_s (ct := fun pc => Nat.beq pc 4 || Nat.beq pc 24 || Nat.beq pc 34) 1000 false (And.intro (fun c1 => (And.intro (Nat.le_of_ble_eq_true rfl) (H1 c1))) (fun c2 => (And.intro rfl (And.intro rfl (Exists.intro 0 (Exists.intro n1 (And.intro k1 (And.intro (B2 c2) (Exists.intro n1 (And.intro k1 (And.intro (B2 c2) (And.intro (Nat.le_of_ble_eq_true rfl) (H3 c2)))))))))))))
/-- SnapshotRingsLaw.steps from 0 -/
theorem r_L_steps_0 {v0 : Int32} {v1 : Nat} {h : sn_H} {Q : Option Value → sn_H → Prop}
    (H1 : wpE 56 4 [some (.int v0), some (.ref v1), none, none, none, none, none] [.ref (hN h)] (allocH h (1, 0, 18)) (1, 18) Q) :
    wpE 56 0 [some (.int v0), some (.ref v1), none, none, none, none, none] [] h (0, 0) Q :=
  vc_s (ct := fun pc => Nat.beq pc 4 || Nat.beq pc 7 || Nat.beq pc 26 || Nat.beq pc 35 || Nat.beq pc 45 || Nat.beq pc 85) 1000 false (Exists.intro 18 (And.intro rfl (And.intro (Nat.le_of_ble_eq_true rfl) (And.intro (Nat.le_of_ble_eq_true rfl) (And.intro (Nat.le_of_ble_eq_true rfl) H1)))))
/-- SnapshotRingsLaw.steps from 4 -/
theorem r_L_steps_4 {v0 : Int32} {v1 : Nat} {s0 : Nat} {h : sn_H} {Q : Option Value → sn_H → Prop}
    (H1 : wpE 56 7 [some (.int v0), some (.ref v1), some (.ref s0), some (.int (nI 0)), none, none, none] [] h (1, 18) Q) :
    wpE 56 4 [some (.int v0), some (.ref v1), none, none, none, none, none] [.ref s0] h (1, 18) Q :=
  vc_s (ct := fun pc => Nat.beq pc 4 || Nat.beq pc 7 || Nat.beq pc 26 || Nat.beq pc 35 || Nat.beq pc 45 || Nat.beq pc 85) 1000 false (And.intro (Nat.le_of_ble_eq_true rfl) (And.intro (Nat.le_of_ble_eq_true rfl) H1))
/-- SnapshotRingsLaw.steps from 7 -/
theorem r_L_steps_7 {v0 : Int32} {v1 : Nat} {v2 : Nat} {v3 : Int32} {n1 : Nat} {h : sn_H} {Q : Option Value → sn_H → Prop}
    (k1 : hK h v2 = (1, 0, n1))
    (H1 : nI 18 ≤ v3 → wpE 56 26 [some (.int v0), some (.ref v1), some (.ref v2), some (.int (nI 0)), none, none, none] [] h (1, 18) Q)
    (B2 : ¬ nI 18 ≤ v3 → vp_in v3 n1)
    (H3 : ¬ nI 18 ≤ v3 → wpE 56 7 [some (.int v0), some (.ref v1), some (.ref v2), some (.int (v3 + nI 1)), none, none, none] [] (setG h v2 v3.toNatClampNeg (nI 99)) (1, 18) Q) :
    wpE 56 7 [some (.int v0), some (.ref v1), some (.ref v2), some (.int v3), none, none, none] [] h (1, 18) Q :=
  vc_s (ct := fun pc => Nat.beq pc 4 || Nat.beq pc 7 || Nat.beq pc 26 || Nat.beq pc 35 || Nat.beq pc 45 || Nat.beq pc 85) 1000 false (And.intro (fun c1 => (And.intro (Nat.le_of_ble_eq_true rfl) (H1 c1))) (fun c2 => (Exists.intro n1 (And.intro k1 (And.intro (B2 c2) (And.intro (Nat.le_of_ble_eq_true rfl) (H3 c2)))))))
/-- SnapshotRingsLaw.steps from 26 -/
theorem r_L_steps_26 {v0 : Int32} {v1 : Nat} {v2 : Nat} {v3 : Int32} {h : sn_H} {Q : Option Value → sn_H → Prop}
    (H1 : nI 18 ≤ v3 → Q (some (.ref v2)) h)
    (H2 : ¬ nI 18 ≤ v3 → wpE 56 35 [some (.int v0), some (.ref v1), some (.ref v2), some (.int v3), some (.int (nI 1)), none, none] [] h (1, 18) Q) :
    wpE 56 26 [some (.int v0), some (.ref v1), some (.ref v2), some (.int v3), none, none, none] [] h (1, 18) Q :=
  vc_s (ct := fun pc => Nat.beq pc 4 || Nat.beq pc 7 || Nat.beq pc 26 || Nat.beq pc 35 || Nat.beq pc 45 || Nat.beq pc 85) 1000 false (And.intro (fun c1 => (And.intro rfl (H1 c1))) (fun c2 => (And.intro (Nat.le_of_ble_eq_true rfl) (H2 c2))))
/-- SnapshotRingsLaw.steps from 35 -/
theorem r_L_steps_35 {v0 : Int32} {v1 : Nat} {v2 : Nat} {v3 : Int32} {v4 : Int32} {h : sn_H} {Q : Option Value → sn_H → Prop}
    (H1 : nI 18 ≤ v4 → wpE 56 26 [some (.int v0), some (.ref v1), some (.ref v2), some (.int (v3 + nI 1)), none, none, none] [] h (1, 18) Q)
    (H2 : ¬ nI 18 ≤ v4 → wpE 56 45 [some (.int v0), some (.ref v1), some (.ref v2), some (.int v3), some (.int v4), some (.int (nI 1)), none] [] h (1, 18) Q) :
    wpE 56 35 [some (.int v0), some (.ref v1), some (.ref v2), some (.int v3), some (.int v4), none, none] [] h (1, 18) Q :=
  vc_s (ct := fun pc => Nat.beq pc 4 || Nat.beq pc 7 || Nat.beq pc 26 || Nat.beq pc 35 || Nat.beq pc 45 || Nat.beq pc 85) 1000 false (And.intro (fun c1 => (And.intro (Nat.le_of_ble_eq_true rfl) (@wpE_w _ _ [some (.int v0), some (.ref v1), some (.ref v2), some (.int (v3 + nI 1)), none, none, none] _ _ _ _ _ (show LeL [some (.int v0), some (.ref v1), some (.ref v2), some (.int (v3 + nI 1)), none, none, none] [some (.int v0), some (.ref v1), some (.ref v2), some (.int (v3 + nI 1)), some (.int v4), none, none] from (And.intro rfl (And.intro rfl (And.intro rfl (And.intro rfl trivial))))) (H1 c1)))) (fun c2 => (And.intro (Nat.le_of_ble_eq_true rfl) (H2 c2))))
/-- SnapshotRingsLaw.steps from 45 -/
theorem r_L_steps_45 {v0 : Int32} {v1 : Nat} {v2 : Nat} {v3 : Int32} {v4 : Int32} {v5 : Int32} {n1 : Nat} {n2 : Nat} {h : sn_H} {Q : Option Value → sn_H → Prop}
    (k1 : hK h v1 = (1, 0, n1))
    (k2 : hK h v2 = (1, 0, n2))
    (H1 : nI 18 ≤ v5 → wpE 56 35 [some (.int v0), some (.ref v1), some (.ref v2), some (.int v3), some (.int (v4 + nI 1)), none, none] [] h (1, 18) Q)
    (B2 : ¬ nI 18 ≤ v5 → vp_in v4 n1)
    (B3 : ¬ nI 18 ≤ v5 → ¬ (((hG h v1 v4.toNatClampNeg) >>> (v5 &&& 31)) &&& nI 1) = 0 → ¬ v5 = v0 → vp_in v5 n2)
    (H4 : ¬ nI 18 ≤ v5 → ¬ (((hG h v1 v4.toNatClampNeg) >>> (v5 &&& 31)) &&& nI 1) = 0 → ¬ v5 = v0 → wpE 56 85 [some (.int v0), some (.ref v1), some (.ref v2), some (.int v3), some (.int v4), some (.int v5), some (.int ((hG h v2 v5.toNatClampNeg) + nI 1))] [] h (1, 18) Q)
    (H5 : ¬ nI 18 ≤ v5 → ¬ (((hG h v1 v4.toNatClampNeg) >>> (v5 &&& 31)) &&& nI 1) = 0 → v5 = v0 → wpE 56 85 [some (.int v0), some (.ref v1), some (.ref v2), some (.int v3), some (.int v4), some (.int v5), some (.int (nI 1))] [] h (1, 18) Q)
    (H6 : ¬ nI 18 ≤ v5 → (((hG h v1 v4.toNatClampNeg) >>> (v5 &&& 31)) &&& nI 1) = 0 → wpE 56 45 [some (.int v0), some (.ref v1), some (.ref v2), some (.int v3), some (.int v4), some (.int (v5 + nI 1)), none] [] h (1, 18) Q) :
    wpE 56 45 [some (.int v0), some (.ref v1), some (.ref v2), some (.int v3), some (.int v4), some (.int v5), none] [] h (1, 18) Q :=
  vc_s (ct := fun pc => Nat.beq pc 4 || Nat.beq pc 7 || Nat.beq pc 26 || Nat.beq pc 35 || Nat.beq pc 45 || Nat.beq pc 85) 1000 false (And.intro (fun c1 => (And.intro (Nat.le_of_ble_eq_true rfl) (@wpE_w _ _ [some (.int v0), some (.ref v1), some (.ref v2), some (.int v3), some (.int (v4 + nI 1)), none, none] _ _ _ _ _ (show LeL [some (.int v0), some (.ref v1), some (.ref v2), some (.int v3), some (.int (v4 + nI 1)), none, none] [some (.int v0), some (.ref v1), some (.ref v2), some (.int v3), some (.int (v4 + nI 1)), some (.int v5), none] from (And.intro rfl (And.intro rfl (And.intro rfl (And.intro rfl (And.intro rfl trivial)))))) (H1 c1)))) (fun c2 => (Exists.intro 0 (Exists.intro n1 (And.intro k1 (And.intro (B2 c2) (And.intro (fun c3 => (And.intro (fun c4 => (Exists.intro 0 (Exists.intro n2 (And.intro k2 (And.intro (B3 c2 c3 c4) (And.intro (Nat.le_of_ble_eq_true rfl) (H4 c2 c3 c4))))))) (fun c5 => (And.intro (Nat.le_of_ble_eq_true rfl) (H5 c2 c3 c5))))) (fun c6 => (And.intro (Nat.le_of_ble_eq_true rfl) (H6 c2 c6))))))))))
/-- SnapshotRingsLaw.steps from 85 -/
theorem r_L_steps_85 {v0 : Int32} {v1 : Nat} {v2 : Nat} {v3 : Int32} {v4 : Int32} {v5 : Int32} {v6 : Int32} {n1 : Nat} {h : sn_H} {Q : Option Value → sn_H → Prop}
    (k1 : hK h v2 = (1, 0, n1))
    (B1 : vp_in v4 n1)
    (H2 : (hG h v2 v4.toNatClampNeg) ≤ v6 → wpE 56 45 [some (.int v0), some (.ref v1), some (.ref v2), some (.int v3), some (.int v4), some (.int (v5 + nI 1)), none] [] (setG h v2 v4.toNatClampNeg (hG h v2 v4.toNatClampNeg)) (1, 18) Q)
    (H3 : ¬ (hG h v2 v4.toNatClampNeg) ≤ v6 → wpE 56 45 [some (.int v0), some (.ref v1), some (.ref v2), some (.int v3), some (.int v4), some (.int (v5 + nI 1)), none] [] (setG h v2 v4.toNatClampNeg v6) (1, 18) Q) :
    wpE 56 85 [some (.int v0), some (.ref v1), some (.ref v2), some (.int v3), some (.int v4), some (.int v5), some (.int v6)] [] h (1, 18) Q :=
  vc_s (ct := fun pc => Nat.beq pc 4 || Nat.beq pc 7 || Nat.beq pc 26 || Nat.beq pc 35 || Nat.beq pc 45 || Nat.beq pc 85) 1000 false (Exists.intro 0 (Exists.intro n1 (And.intro k1 (And.intro B1 (And.intro (fun c1 => (Exists.intro 0 (Exists.intro n1 (And.intro k1 (And.intro B1 (Exists.intro n1 (And.intro k1 (And.intro B1 (And.intro (Nat.le_of_ble_eq_true rfl) (@wpE_w _ _ [some (.int v0), some (.ref v1), some (.ref v2), some (.int v3), some (.int v4), some (.int (v5 + nI 1)), none] _ _ _ _ _ (show LeL [some (.int v0), some (.ref v1), some (.ref v2), some (.int v3), some (.int v4), some (.int (v5 + nI 1)), none] [some (.int v0), some (.ref v1), some (.ref v2), some (.int v3), some (.int v4), some (.int (v5 + nI 1)), some (.int v6)] from (And.intro rfl (And.intro rfl (And.intro rfl (And.intro rfl (And.intro rfl (And.intro rfl trivial))))))) (H2 c1))))))))))) (fun c2 => (Exists.intro n1 (And.intro k1 (And.intro B1 (And.intro (Nat.le_of_ble_eq_true rfl) (@wpE_w _ _ [some (.int v0), some (.ref v1), some (.ref v2), some (.int v3), some (.int v4), some (.int (v5 + nI 1)), none] _ _ _ _ _ (show LeL [some (.int v0), some (.ref v1), some (.ref v2), some (.int v3), some (.int v4), some (.int (v5 + nI 1)), none] [some (.int v0), some (.ref v1), some (.ref v2), some (.int v3), some (.int v4), some (.int (v5 + nI 1)), some (.int v6)] from (And.intro rfl (And.intro rfl (And.intro rfl (And.intro rfl (And.intro rfl (And.intro rfl trivial))))))) (H3 c2))))))))))))
/-- SnapshotRingsLaw.reason from 0 -/
theorem r_L_reason_0 {v0 : Int32} {v1 : Int32} {v2 : Nat} {v3 : Nat} {v4 : Nat} {h : sn_H} {Q : Option Value → sn_H → Prop}
    (H1 : wpE 51 3 [some (.int v0), some (.int v1), some (.ref v2), some (.ref v3), some (.ref v4), some (.int (nI 0)), none, none, none] [] h (0, 0) Q) :
    wpE 51 0 [some (.int v0), some (.int v1), some (.ref v2), some (.ref v3), some (.ref v4), none, none, none, none] [] h (0, 0) Q :=
  vc_s (ct := fun pc => Nat.beq pc 3 || Nat.beq pc 52 || Nat.beq pc 88 || Nat.beq pc 109 || Nat.beq pc 119) 1000 false (And.intro (Nat.le_of_ble_eq_true rfl) H1)
/-- SnapshotRingsLaw.reason from 3 -/
theorem r_L_reason_3 {v0 : Int32} {v1 : Int32} {v2 : Nat} {v3 : Nat} {v4 : Nat} {v5 : Int32} {n1 : Nat} {n2 : Nat} {h : sn_H} {c1 c2 : Nat} {Q : Option Value → sn_H → Prop}
    (k1 : hK h v4 = (1, 0, n1))
    (k2 : hK h v2 = (1, 0, n2))
    (H1 : nI 4 ≤ v5 → wpE 51 52 [some (.int v0), some (.int v1), some (.ref v2), some (.ref v3), some (.ref v4), none, none, none, none] [] h (c1, c2) Q)
    (B2 : ¬ nI 4 ≤ v5 → vp_in ((nI 3 * v0) + nI 2) n1)
    (H3 : ¬ nI 4 ≤ v5 → ¬ (((hG h v4 ((nI 3 * v0) + nI 2).toNatClampNeg) >>> (v5 &&& 31)) &&& nI 1) = nI 1 → wpE 51 3 [some (.int v0), some (.int v1), some (.ref v2), some (.ref v3), some (.ref v4), some (.int (v5 + nI 1)), none, none, none] [] h (c1, c2) Q)
    (B4 : ¬ nI 4 ≤ v5 → (((hG h v4 ((nI 3 * v0) + nI 2).toNatClampNeg) >>> (v5 &&& 31)) &&& nI 1) = nI 1 → vp_in (nI 0) n2)
    (B5 : ¬ nI 4 ≤ v5 → (((hG h v4 ((nI 3 * v0) + nI 2).toNatClampNeg) >>> (v5 &&& 31)) &&& nI 1) = nI 1 → c1 ≤ 3)
    (B6 : ¬ nI 4 ≤ v5 → (((hG h v4 ((nI 3 * v0) + nI 2).toNatClampNeg) >>> (v5 &&& 31)) &&& nI 1) = nI 1 → c2 ≤ 54)
    (H7 : ¬ nI 4 ≤ v5 → (((hG h v4 ((nI 3 * v0) + nI 2).toNatClampNeg) >>> (v5 &&& 31)) &&& nI 1) = nI 1 → wpE 52 0 [some (.int v5), some (.int (hG h v2 (nI 0).toNatClampNeg)), some (.ref v3), none, none] [] h (0, 0) (fun r hh => wpE 51 35 [some (.int v0), some (.int v1), some (.ref v2), some (.ref v3), some (.ref v4), some (.int v5), none, none, none] (r.toList ++ []) hh (c1, c2) Q)) :
    wpE 51 3 [some (.int v0), some (.int v1), some (.ref v2), some (.ref v3), some (.ref v4), some (.int v5), none, none, none] [] h (c1, c2) Q :=
  vc_s (ct := fun pc => Nat.beq pc 3 || Nat.beq pc 52 || Nat.beq pc 88 || Nat.beq pc 109 || Nat.beq pc 119) 1000 false (And.intro (fun c1 => (@wpE_w _ _ [some (.int v0), some (.int v1), some (.ref v2), some (.ref v3), some (.ref v4), none, none, none, none] _ _ _ _ _ (show LeL [some (.int v0), some (.int v1), some (.ref v2), some (.ref v3), some (.ref v4), none, none, none, none] [some (.int v0), some (.int v1), some (.ref v2), some (.ref v3), some (.ref v4), some (.int v5), none, none, none] from (And.intro rfl (And.intro rfl (And.intro rfl (And.intro rfl (And.intro rfl trivial)))))) (H1 c1))) (fun c2 => (Exists.intro 0 (Exists.intro n1 (And.intro k1 (And.intro (B2 c2) (And.intro (fun c3 => (And.intro (Nat.le_of_ble_eq_true rfl) (H3 c2 c3))) (fun c4 => (Exists.intro 0 (Exists.intro n2 (And.intro k2 (And.intro (B4 c2 c4) (And.intro (Nat.le_of_ble_eq_true rfl) (And.intro (B5 c2 c4) (And.intro (B6 c2 c4) (And.intro (Nat.le_of_ble_eq_true rfl) (H7 c2 c4)))))))))))))))))
/-- SnapshotRingsLaw.reason from 52 -/
theorem r_L_reason_52 {v0 : Int32} {v1 : Int32} {v2 : Nat} {v3 : Nat} {v4 : Nat} {n1 : Nat} {h : sn_H} {c1 c2 : Nat} {Q : Option Value → sn_H → Prop}
    (k1 : hK h v2 = (1, 0, n1))
    (B1 : vp_in (nI 0) n1)
    (H2 : v1 ≤ 0 → wpE 51 88 [some (.int v0), some (.int v1), some (.ref v2), some (.ref v3), some (.ref v4), some (.int ((hG h v2 (nI 0).toNatClampNeg) + nI 1)), none, none, none] [] h (c1, c2) Q)
    (B3 : ¬ v1 ≤ 0 → c1 + 1 ≤ 3)
    (B4 : ¬ v1 ≤ 0 → c2 + 18 ≤ 54)
    (H5 : ¬ v1 ≤ 0 → wpE 53 0 [some (.int v0), some (.int (nI 7)), some (.ref v2), some (.ref v3), some (.ref v4), none, none, none, none] [] h (0, 0) (fun r hh => wpE 51 75 [some (.int v0), some (.int v1), some (.ref v2), some (.ref v3), some (.ref v4), some (.int ((hG h v2 (nI 0).toNatClampNeg) + nI 1)), none, none, none] (r.toList ++ [.int ((hG h v2 (nI 0).toNatClampNeg) + nI 1)]) hh (c1 + 1, c2 + 18) Q)) :
    wpE 51 52 [some (.int v0), some (.int v1), some (.ref v2), some (.ref v3), some (.ref v4), none, none, none, none] [] h (c1, c2) Q :=
  vc_s (ct := fun pc => Nat.beq pc 3 || Nat.beq pc 52 || Nat.beq pc 88 || Nat.beq pc 109 || Nat.beq pc 119) 1000 false (Exists.intro 0 (Exists.intro n1 (And.intro k1 (And.intro B1 (And.intro (Nat.le_of_ble_eq_true rfl) (And.intro (fun c1 => (H2 c1)) (fun c2 => (And.intro (Nat.le_of_ble_eq_true rfl) (And.intro (B3 c2) (And.intro (B4 c2) (And.intro (Nat.le_of_ble_eq_true rfl) (H5 c2))))))))))))
/-- SnapshotRingsLaw.reason from 35 -/
theorem r_L_reason_35 {v0 : Int32} {v1 : Int32} {v2 : Nat} {v3 : Nat} {v4 : Nat} {v5 : Int32} {s0 : Int32} {n1 : Nat} {h : sn_H} {c1 c2 : Nat} {Q : Option Value → sn_H → Prop}
    (k1 : hK h v4 = (1, 0, n1))
    (B1 : vp_in (nI 3 * v0) n1)
    (H2 : s0 ≤ (hG h v4 (nI 3 * v0).toNatClampNeg) → wpE 51 3 [some (.int v0), some (.int v1), some (.ref v2), some (.ref v3), some (.ref v4), some (.int (v5 + nI 1)), none, none, none] [] h (c1, c2) Q)
    (H3 : ¬ s0 ≤ (hG h v4 (nI 3 * v0).toNatClampNeg) → Q (some (.int (nI 1))) h) :
    wpE 51 35 [some (.int v0), some (.int v1), some (.ref v2), some (.ref v3), some (.ref v4), some (.int v5), none, none, none] [.int s0] h (c1, c2) Q :=
  vc_s (ct := fun pc => Nat.beq pc 3 || Nat.beq pc 52 || Nat.beq pc 88 || Nat.beq pc 109 || Nat.beq pc 119) 1000 false (Exists.intro 0 (Exists.intro n1 (And.intro k1 (And.intro B1 (And.intro (fun c1 => (And.intro (Nat.le_of_ble_eq_true rfl) (H2 c1))) (fun c2 => (H3 c2)))))))
/-- SnapshotRingsLaw.reason from 88 -/
theorem r_L_reason_88 {v0 : Int32} {v1 : Int32} {v2 : Nat} {v3 : Nat} {v4 : Nat} {v5 : Int32} {h : sn_H} {c1 c2 : Nat} {Q : Option Value → sn_H → Prop}
    (B1 : nI 2 ≤ v1 → c1 + 1 ≤ 3)
    (B2 : nI 2 ≤ v1 → c2 + 18 ≤ 54)
    (H3 : nI 2 ≤ v1 → wpE 53 0 [some (.int v0), some (.int (nI 4)), some (.ref v2), some (.ref v3), some (.ref v4), none, none, none, none] [] h (0, 0) (fun r hh => wpE 51 104 [none, none, none, none, none, some (.int v5), none, none, none] (r.toList ++ []) hh (c1 + 1, c2 + 18) Q))
    (H4 : ¬ nI 2 ≤ v1 → Q (some (.int (nI 0))) h) :
    wpE 51 88 [some (.int v0), some (.int v1), some (.ref v2), some (.ref v3), some (.ref v4), some (.int v5), none, none, none] [] h (c1, c2) Q :=
  vc_s (ct := fun pc => Nat.beq pc 3 || Nat.beq pc 52 || Nat.beq pc 88 || Nat.beq pc 109 || Nat.beq pc 119) 1000 false (And.intro (fun c1 => (And.intro (Nat.le_of_ble_eq_true rfl) (And.intro (B1 c1) (And.intro (B2 c1) (And.intro (Nat.le_of_ble_eq_true rfl) (wpE_m (fun _ _ HH => @wpE_w _ _ [none, none, none, none, none, some (.int v5), none, none, none] _ _ _ _ _ (show LeL [none, none, none, none, none, some (.int v5), none, none, none] [some (.int v0), some (.int v1), some (.ref v2), some (.ref v3), some (.ref v4), some (.int v5), none, none, none] from (And.intro rfl trivial)) HH) (H3 c1))))))) (fun c2 => (H4 c2)))
/-- SnapshotRingsLaw.reason from 75 -/
theorem r_L_reason_75 {v0 : Int32} {v1 : Int32} {v2 : Nat} {v3 : Nat} {v4 : Nat} {v5 : Int32} {s0 : Int32} {s1 : Nat} {h : sn_H} {c1 c2 : Nat} {Q : Option Value → sn_H → Prop}
    (B1 : c1 + 1 ≤ 3)
    (B2 : c2 + 18 ≤ 54)
    (H3 : wpE 56 0 [some (.int s0), some (.ref s1), none, none, none, none, none] [] h (0, 0) (fun r hh => wpE 51 78 [some (.int v0), some (.int v1), some (.ref v2), some (.ref v3), some (.ref v4), some (.int v5), none, none, none] (r.toList ++ []) hh (c1 + 1, c2 + 18) Q)) :
    wpE 51 75 [some (.int v0), some (.int v1), some (.ref v2), some (.ref v3), some (.ref v4), some (.int v5), none, none, none] [.ref s1, .int s0] h (c1, c2) Q :=
  vc_s (ct := fun pc => Nat.beq pc 3 || Nat.beq pc 52 || Nat.beq pc 88 || Nat.beq pc 109 || Nat.beq pc 119) 1000 false (And.intro (Nat.le_of_ble_eq_true rfl) (And.intro B1 (And.intro B2 (And.intro (Nat.le_of_ble_eq_true rfl) H3))))
/-- SnapshotRingsLaw.reason from 104 -/
theorem r_L_reason_104 {v5 : Int32} {s0 : Nat} {h : sn_H} {c1 c2 : Nat} {Q : Option Value → sn_H → Prop}
    (H1 : wpE 51 109 [none, none, none, none, none, some (.int v5), some (.ref s0), some (.int (nI 1)), none] [] h (c1, c2) Q) :
    wpE 51 104 [none, none, none, none, none, some (.int v5), none, none, none] [.ref s0] h (c1, c2) Q :=
  vc_s (ct := fun pc => Nat.beq pc 3 || Nat.beq pc 52 || Nat.beq pc 88 || Nat.beq pc 109 || Nat.beq pc 119) 1000 false (And.intro (Nat.le_of_ble_eq_true rfl) (And.intro (Nat.le_of_ble_eq_true rfl) H1))
/-- SnapshotRingsLaw.reason from 78 -/
theorem r_L_reason_78 {v0 : Int32} {v1 : Int32} {v2 : Nat} {v3 : Nat} {v4 : Nat} {v5 : Int32} {s0 : Nat} {n1 : Nat} {h : sn_H} {c1 c2 : Nat} {Q : Option Value → sn_H → Prop}
    (k1 : hK h s0 = (1, 0, n1))
    (B1 : vp_in v5 n1)
    (H2 : nI 99 ≤ (hG h s0 v5.toNatClampNeg) → wpE 51 88 [some (.int v0), some (.int v1), some (.ref v2), some (.ref v3), some (.ref v4), some (.int v5), none, none, none] [] h (c1, c2) Q)
    (H3 : ¬ nI 99 ≤ (hG h s0 v5.toNatClampNeg) → Q (some (.int (nI 2))) h) :
    wpE 51 78 [some (.int v0), some (.int v1), some (.ref v2), some (.ref v3), some (.ref v4), some (.int v5), none, none, none] [.ref s0] h (c1, c2) Q :=
  vc_s (ct := fun pc => Nat.beq pc 3 || Nat.beq pc 52 || Nat.beq pc 88 || Nat.beq pc 109 || Nat.beq pc 119) 1000 false (Exists.intro 0 (Exists.intro n1 (And.intro k1 (And.intro B1 (And.intro (fun c1 => (H2 c1)) (fun c2 => (H3 c2)))))))
/-- SnapshotRingsLaw.reason from 109 -/
theorem r_L_reason_109 {v5 : Int32} {v6 : Nat} {v7 : Int32} {h : sn_H} {c1 c2 : Nat} {Q : Option Value → sn_H → Prop}
    (H1 : v5 < v7 → Q (some (.int (nI 0))) h)
    (H2 : ¬ v5 < v7 → wpE 51 119 [none, none, none, none, none, some (.int v5), some (.ref v6), some (.int v7), some (.int (nI 1))] [] h (c1, c2) Q) :
    wpE 51 109 [none, none, none, none, none, some (.int v5), some (.ref v6), some (.int v7), none] [] h (c1, c2) Q :=
  vc_s (ct := fun pc => Nat.beq pc 3 || Nat.beq pc 52 || Nat.beq pc 88 || Nat.beq pc 109 || Nat.beq pc 119) 1000 false (And.intro (fun c1 => (H1 c1)) (fun c2 => (And.intro (Nat.le_of_ble_eq_true rfl) (H2 c2))))
/-- SnapshotRingsLaw.reason from 119 -/
theorem r_L_reason_119 {v5 : Int32} {v6 : Nat} {v7 : Int32} {v8 : Int32} {n1 : Nat} {h : sn_H} {c1 c2 : Nat} {Q : Option Value → sn_H → Prop}
    (k1 : hK h v6 = (1, 0, n1))
    (H1 : v5 < v8 → wpE 51 109 [none, none, none, none, none, some (.int v5), some (.ref v6), some (.int (v7 + nI 1)), none] [] h (c1, c2) Q)
    (B2 : ¬ v5 < v8 → vp_in v8 n1)
    (H3 : ¬ v5 < v8 → (((hG h v6 v8.toNatClampNeg) >>> (v7 &&& 31)) &&& nI 1) = 0 → wpE 51 119 [none, none, none, none, none, some (.int v5), some (.ref v6), some (.int v7), some (.int (v8 + nI 1))] [] h (c1, c2) Q)
    (B4 : ¬ v5 < v8 → ¬ (((hG h v6 v8.toNatClampNeg) >>> (v7 &&& 31)) &&& nI 1) = 0 → vp_in v7 n1)
    (H5 : ¬ v5 < v8 → ¬ (((hG h v6 v8.toNatClampNeg) >>> (v7 &&& 31)) &&& nI 1) = 0 → ¬ (hG h v6 v7.toNatClampNeg) = 0 → v8 = v5 → Q (some (.int (nI 3))) h)
    (H6 : ¬ v5 < v8 → ¬ (((hG h v6 v8.toNatClampNeg) >>> (v7 &&& 31)) &&& nI 1) = 0 → ¬ (hG h v6 v7.toNatClampNeg) = 0 → ¬ v8 = v5 → v7 = v5 → Q (some (.int (nI 3))) h)
    (H7 : ¬ v5 < v8 → ¬ (((hG h v6 v8.toNatClampNeg) >>> (v7 &&& 31)) &&& nI 1) = 0 → ¬ (hG h v6 v7.toNatClampNeg) = 0 → ¬ v8 = v5 → ¬ v7 = v5 → ¬ (((hG h v6 v7.toNatClampNeg) >>> (v5 &&& 31)) &&& nI 1) = nI 1 → wpE 51 119 [none, none, none, none, none, some (.int v5), some (.ref v6), some (.int v7), some (.int (v8 + nI 1))] [] h (c1, c2) Q)
    (H8 : ¬ v5 < v8 → ¬ (((hG h v6 v8.toNatClampNeg) >>> (v7 &&& 31)) &&& nI 1) = 0 → ¬ (hG h v6 v7.toNatClampNeg) = 0 → ¬ v8 = v5 → ¬ v7 = v5 → (((hG h v6 v7.toNatClampNeg) >>> (v5 &&& 31)) &&& nI 1) = nI 1 → Q (some (.int (nI 3))) h)
    (H9 : ¬ v5 < v8 → ¬ (((hG h v6 v8.toNatClampNeg) >>> (v7 &&& 31)) &&& nI 1) = 0 → (hG h v6 v7.toNatClampNeg) = 0 → wpE 51 119 [none, none, none, none, none, some (.int v5), some (.ref v6), some (.int v7), some (.int (v8 + nI 1))] [] h (c1, c2) Q) :
    wpE 51 119 [none, none, none, none, none, some (.int v5), some (.ref v6), some (.int v7), some (.int v8)] [] h (c1, c2) Q :=
  vc_s (ct := fun pc => Nat.beq pc 3 || Nat.beq pc 52 || Nat.beq pc 88 || Nat.beq pc 109 || Nat.beq pc 119) 1000 false (And.intro (fun c1 => (And.intro (Nat.le_of_ble_eq_true rfl) (@wpE_w _ _ [none, none, none, none, none, some (.int v5), some (.ref v6), some (.int (v7 + nI 1)), none] _ _ _ _ _ (show LeL [none, none, none, none, none, some (.int v5), some (.ref v6), some (.int (v7 + nI 1)), none] [none, none, none, none, none, some (.int v5), some (.ref v6), some (.int (v7 + nI 1)), some (.int v8)] from (And.intro rfl (And.intro rfl (And.intro rfl trivial)))) (H1 c1)))) (fun c2 => (Exists.intro 0 (Exists.intro n1 (And.intro k1 (And.intro (B2 c2) (And.intro (fun c3 => (And.intro (Nat.le_of_ble_eq_true rfl) (H3 c2 c3))) (fun c4 => (Exists.intro 0 (Exists.intro n1 (And.intro k1 (And.intro (B4 c2 c4) (And.intro (fun c5 => (And.intro (fun c6 => (H5 c2 c4 c5 c6)) (fun c7 => (And.intro (fun c8 => (H6 c2 c4 c5 c7 c8)) (fun c9 => (Exists.intro 0 (Exists.intro n1 (And.intro k1 (And.intro (B4 c2 c4) (And.intro (fun c10 => (And.intro (Nat.le_of_ble_eq_true rfl) (H7 c2 c4 c5 c7 c9 c10))) (fun c11 => (H8 c2 c4 c5 c7 c9 c11)))))))))))) (fun c12 => (And.intro (Nat.le_of_ble_eq_true rfl) (H9 c2 c4 c12))))))))))))))))
/-- SnapshotRingsLaw.commit from 0 -/
theorem r_L_commit_0 {v0 : Int32} {v1 : Nat} {v2 : Nat} {v3 : Nat} {v4 : Nat} {n1 : Nat} {h : sn_H} {Q : Option Value → sn_H → Prop}
    (k1 : hK h v1 = (1, 0, n1))
    (B1 : vp_in (nI 1) n1)
    (H2 : wpE 51 0 [some (.int v0), some (.int (hG h v1 (nI 1).toNatClampNeg)), some (.ref v1), some (.ref v2), some (.ref v4), none, none, none, none] [] h (0, 0) (fun r hh => wpE 50 11 [some (.int v0), some (.ref v1), some (.ref v2), some (.ref v3), some (.ref v4), none, none] (r.toList ++ []) hh (3, 54) Q)) :
    wpE 50 0 [some (.int v0), some (.ref v1), some (.ref v2), some (.ref v3), some (.ref v4), none, none] [] h (0, 0) Q :=
  vc_s (ct := fun pc => Nat.beq pc 41 || Nat.beq pc 76 || Nat.beq pc 110) 1000 false (Exists.intro 0 (Exists.intro n1 (And.intro k1 (And.intro B1 (And.intro (Nat.le_of_ble_eq_true rfl) (And.intro (Nat.le_of_ble_eq_true rfl) (And.intro (Nat.le_of_ble_eq_true rfl) (And.intro (Nat.le_of_ble_eq_true rfl) H2))))))))
/-- SnapshotRingsLaw.commit from 11 -/
theorem r_L_commit_11 {v0 : Int32} {v1 : Nat} {v2 : Nat} {v3 : Nat} {v4 : Nat} {s0 : Int32} {n1 : Nat} {h : sn_H} {Q : Option Value → sn_H → Prop}
    (k1 : hK h v1 = (1, 0, n1))
    (B1 : s0 ≤ 0 → vp_in (nI 0) n1)
    (H2 : s0 ≤ 0 → wpE 50 41 [some (.int v0), some (.ref v1), some (.ref v2), some (.ref v3), some (.ref v4), some (.int s0), some (.int (nI 0))] [] (setG h v1 (nI 0).toNatClampNeg ((hG h v1 (nI 0).toNatClampNeg) + nI 1)) (3, 54) Q)
    (B3 : ¬ s0 ≤ 0 → vp_in (nI 1 + s0) n1)
    (H4 : ¬ s0 ≤ 0 → wpE 50 110 [some (.int v0), some (.ref v1), none, none, some (.ref v4), some (.int s0), none] [] (setG h v1 (nI 1 + s0).toNatClampNeg ((hG h v1 (nI 1 + s0).toNatClampNeg) + nI 1)) (3, 54) Q) :
    wpE 50 11 [some (.int v0), some (.ref v1), some (.ref v2), some (.ref v3), some (.ref v4), none, none] [.int s0] h (3, 54) Q :=
  vc_s (ct := fun pc => Nat.beq pc 41 || Nat.beq pc 76 || Nat.beq pc 110) 1000 false (And.intro (Nat.le_of_ble_eq_true rfl) (And.intro (fun c1 => (And.intro rfl (And.intro rfl (Exists.intro 0 (Exists.intro n1 (And.intro k1 (And.intro (B1 c1) (Exists.intro n1 (And.intro k1 (And.intro (B1 c1) (And.intro (Nat.le_of_ble_eq_true rfl) (H2 c1)))))))))))) (fun c2 => (And.intro rfl (And.intro rfl (Exists.intro 0 (Exists.intro n1 (And.intro k1 (And.intro (B3 c2) (Exists.intro n1 (And.intro k1 (And.intro (B3 c2) (@wpE_w _ _ [some (.int v0), some (.ref v1), none, none, some (.ref v4), some (.int s0), none] _ _ _ _ _ (show LeL [some (.int v0), some (.ref v1), none, none, some (.ref v4), some (.int s0), none] [some (.int v0), some (.ref v1), some (.ref v2), some (.ref v3), some (.ref v4), some (.int s0), none] from (And.intro rfl (And.intro rfl (And.intro rfl (And.intro rfl trivial))))) (H4 c2))))))))))))))
/-- SnapshotRingsLaw.commit from 41 -/
theorem r_L_commit_41 {v0 : Int32} {v1 : Nat} {v2 : Nat} {v3 : Nat} {v4 : Nat} {v5 : Int32} {v6 : Int32} {n1 : Nat} {n2 : Nat} {n3 : Nat} {h : sn_H} {Q : Option Value → sn_H → Prop}
    (k1 : hK h v1 = (1, 0, n1))
    (k2 : hK h v4 = (1, 0, n2))
    (k3 : hK h v2 = (1, 0, n3))
    (H1 : nI 3 ≤ v6 → wpE 50 76 [some (.int v0), some (.ref v1), none, some (.ref v3), some (.ref v4), some (.int v5), some (.int (nI 0))] [] h (3, 54) Q)
    (B2 : ¬ nI 3 ≤ v6 → vp_in (nI 0) n1)
    (B3 : ¬ nI 3 ≤ v6 → vp_in ((nI 3 * v0) + v6) n2)
    (B4 : ¬ nI 3 ≤ v6 → vp_in ((nI 16 * v6) + (hG h v1 (nI 0).toNatClampNeg)) n3)
    (H5 : ¬ nI 3 ≤ v6 → wpE 50 41 [some (.int v0), some (.ref v1), some (.ref v2), some (.ref v3), some (.ref v4), some (.int v5), some (.int (v6 + nI 1))] [] (setG h v2 ((nI 16 * v6) + (hG h v1 (nI 0).toNatClampNeg)).toNatClampNeg (hG h v4 ((nI 3 * v0) + v6).toNatClampNeg)) (3, 54) Q) :
    wpE 50 41 [some (.int v0), some (.ref v1), some (.ref v2), some (.ref v3), some (.ref v4), some (.int v5), some (.int v6)] [] h (3, 54) Q :=
  vc_s (ct := fun pc => Nat.beq pc 41 || Nat.beq pc 76 || Nat.beq pc 110) 1000 false (And.intro (fun c1 => (And.intro (Nat.le_of_ble_eq_true rfl) (@wpE_w _ _ [some (.int v0), some (.ref v1), none, some (.ref v3), some (.ref v4), some (.int v5), some (.int (nI 0))] _ _ _ _ _ (show LeL [some (.int v0), some (.ref v1), none, some (.ref v3), some (.ref v4), some (.int v5), some (.int (nI 0))] [some (.int v0), some (.ref v1), some (.ref v2), some (.ref v3), some (.ref v4), some (.int v5), some (.int (nI 0))] from (And.intro rfl (And.intro rfl (And.intro rfl (And.intro rfl (And.intro rfl (And.intro rfl trivial))))))) (H1 c1)))) (fun c2 => (Exists.intro 0 (Exists.intro n1 (And.intro k1 (And.intro (B2 c2) (Exists.intro 0 (Exists.intro n2 (And.intro k2 (And.intro (B3 c2) (Exists.intro n3 (And.intro k3 (And.intro (B4 c2) (And.intro (Nat.le_of_ble_eq_true rfl) (H5 c2)))))))))))))))
/-- SnapshotRingsLaw.commit from 110 -/
theorem r_L_commit_110 {v0 : Int32} {v1 : Nat} {v4 : Nat} {v5 : Int32} {n1 : Nat} {n2 : Nat} {h : sn_H} {Q : Option Value → sn_H → Prop}
    (k1 : hK h v4 = (1, 0, n1))
    (k2 : hK h v1 = (1, 0, n2))
    (B1 : vp_in (nI 3 * v0) n1)
    (B2 : v5 ≤ 0 → vp_in (nI 0) n2)
    (H3 : v5 ≤ 0 → Q (some (.int (hG (setG h v4 (nI 3 * v0).toNatClampNeg (-(nI 1))) v1 (nI 0).toNatClampNeg))) (setG h v4 (nI 3 * v0).toNatClampNeg (-(nI 1))))
    (H4 : ¬ v5 ≤ 0 → Q (some (.int (-v5))) (setG h v4 (nI 3 * v0).toNatClampNeg (-(nI 1)))) :
    wpE 50 110 [some (.int v0), some (.ref v1), none, none, some (.ref v4), some (.int v5), none] [] h (3, 54) Q :=
  vc_s (ct := fun pc => Nat.beq pc 41 || Nat.beq pc 76 || Nat.beq pc 110) 1000 false (Exists.intro n1 (And.intro k1 (And.intro B1 (And.intro (fun c1 => (Exists.intro 0 (Exists.intro n2 (And.intro k2 (And.intro (B2 c1) (H3 c1)))))) (fun c2 => (H4 c2))))))
/-- SnapshotRingsLaw.commit from 76 -/
theorem r_L_commit_76 {v0 : Int32} {v1 : Nat} {v3 : Nat} {v4 : Nat} {v5 : Int32} {v6 : Int32} {n1 : Nat} {n2 : Nat} {n3 : Nat} {h : sn_H} {Q : Option Value → sn_H → Prop}
    (k1 : hK h v1 = (1, 0, n1))
    (k2 : hK h v4 = (1, 0, n2))
    (k3 : hK h v3 = (1, 0, n3))
    (H1 : nI 4 ≤ v6 → wpE 50 110 [some (.int v0), some (.ref v1), none, none, some (.ref v4), some (.int v5), none] [] h (3, 54) Q)
    (B2 : ¬ nI 4 ≤ v6 → vp_in (nI 0) n1)
    (B3 : ¬ nI 4 ≤ v6 → vp_in ((nI 12 + (nI 4 * v0)) + v6) n2)
    (B4 : ¬ nI 4 ≤ v6 → vp_in ((nI 4 * (hG h v1 (nI 0).toNatClampNeg)) + v6) n3)
    (H5 : ¬ nI 4 ≤ v6 → wpE 50 76 [some (.int v0), some (.ref v1), none, some (.ref v3), some (.ref v4), some (.int v5), some (.int (v6 + nI 1))] [] (setG h v3 ((nI 4 * (hG h v1 (nI 0).toNatClampNeg)) + v6).toNatClampNeg (hG h v4 ((nI 12 + (nI 4 * v0)) + v6).toNatClampNeg)) (3, 54) Q) :
    wpE 50 76 [some (.int v0), some (.ref v1), none, some (.ref v3), some (.ref v4), some (.int v5), some (.int v6)] [] h (3, 54) Q :=
  vc_s (ct := fun pc => Nat.beq pc 41 || Nat.beq pc 76 || Nat.beq pc 110) 1000 false (And.intro (fun c1 => (@wpE_w _ _ [some (.int v0), some (.ref v1), none, none, some (.ref v4), some (.int v5), none] _ _ _ _ _ (show LeL [some (.int v0), some (.ref v1), none, none, some (.ref v4), some (.int v5), none] [some (.int v0), some (.ref v1), none, some (.ref v3), some (.ref v4), some (.int v5), some (.int v6)] from (And.intro rfl (And.intro rfl (And.intro rfl (And.intro rfl trivial))))) (H1 c1))) (fun c2 => (Exists.intro 0 (Exists.intro n1 (And.intro k1 (And.intro (B2 c2) (Exists.intro 0 (Exists.intro n2 (And.intro k2 (And.intro (B3 c2) (Exists.intro n3 (And.intro k3 (And.intro (B4 c2) (And.intro (Nat.le_of_ble_eq_true rfl) (H5 c2)))))))))))))))
/-- SnapshotRingsLaw.value from 0 -/
theorem r_L_value_0 {v0 : Int32} {v1 : Int32} {v2 : Nat} {v3 : Nat} {h : sn_H} {Q : Option Value → sn_H → Prop}
    (H1 : wpE 52 0 [some (.int v0), some (.int v1), some (.ref v2), none, none] [] h (0, 0) (fun r hh => wpE 57 6 [some (.int v0), none, none, some (.ref v3), none] (r.toList ++ []) hh (0, 0) Q)) :
    wpE 57 0 [some (.int v0), some (.int v1), some (.ref v2), some (.ref v3), none] [] h (0, 0) Q :=
  vc_s (ct := fun _ => false) 1000 false (And.intro (Nat.le_of_ble_eq_true rfl) (And.intro (Nat.le_of_ble_eq_true rfl) (And.intro (Nat.le_of_ble_eq_true rfl) (And.intro (Nat.le_of_ble_eq_true rfl) (wpE_m (fun _ _ HH => @wpE_w _ _ [some (.int v0), none, none, some (.ref v3), none] _ _ _ _ _ (show LeL [some (.int v0), none, none, some (.ref v3), none] [some (.int v0), some (.int v1), some (.ref v2), some (.ref v3), none] from (And.intro rfl (And.intro rfl trivial))) HH) H1)))))
/-- SnapshotRingsLaw.value from 6 -/
theorem r_L_value_6 {v0 : Int32} {v3 : Nat} {s0 : Int32} {n1 : Nat} {h : sn_H} {Q : Option Value → sn_H → Prop}
    (k1 : hK h v3 = (1, 0, n1))
    (B1 : ¬ s0 = 0 → vp_in ((nI 4 * s0) + v0) n1)
    (H2 : ¬ s0 = 0 → Q (some (.int (hG h v3 ((nI 4 * s0) + v0).toNatClampNeg))) h)
    (H3 : s0 = 0 → Q (some (.int (nI 0))) h) :
    wpE 57 6 [some (.int v0), none, none, some (.ref v3), none] [.int s0] h (0, 0) Q :=
  vc_s (ct := fun _ => false) 1000 false (And.intro (Nat.le_of_ble_eq_true rfl) (And.intro (fun c1 => (Exists.intro 0 (Exists.intro n1 (And.intro k1 (And.intro (B1 c1) (H2 c1)))))) (fun c2 => (H3 c2))))
/-- SnapshotRingsLaw.holds from 0 -/
theorem r_L_holds_0 {v0 : Int32} {v1 : Int32} {v2 : Nat} {v3 : Nat} {v4 : Nat} {v5 : Nat} {h : sn_H} {Q : Option Value → sn_H → Prop}
    (H1 : wpE 58 6 [some (.int v0), some (.int v1), some (.ref v2), some (.ref v3), some (.ref v4), some (.ref v5), some (.int (nI 0)), some (.int (nI 0))] [] h (0, 0) Q) :
    wpE 58 0 [some (.int v0), some (.int v1), some (.ref v2), some (.ref v3), some (.ref v4), some (.ref v5), none, none] [] h (0, 0) Q :=
  vc_s (ct := fun pc => Nat.beq pc 6) 1000 false (And.intro (Nat.le_of_ble_eq_true rfl) (And.intro (Nat.le_of_ble_eq_true rfl) H1))
/-- SnapshotRingsLaw.holds from 6 -/
theorem r_L_holds_6 {v0 : Int32} {v1 : Int32} {v2 : Nat} {v3 : Nat} {v4 : Nat} {v5 : Nat} {v6 : Int32} {v7 : Int32} {n1 : Nat} {n2 : Nat} {h : sn_H} {Q : Option Value → sn_H → Prop}
    (k1 : hK h v2 = (1, 0, n1))
    (k2 : hK h v5 = (1, 0, n2))
    (B1 : nI 4 ≤ v7 → vp_in (nI 7 + (nI 2 * v0)) n1)
    (H2 : nI 4 ≤ v7 → v6 < (hG h v2 (nI 7 + (nI 2 * v0)).toNatClampNeg) → Q (some (.int (nI 0))) h)
    (H3 : nI 4 ≤ v7 → ¬ v6 < (hG h v2 (nI 7 + (nI 2 * v0)).toNatClampNeg) → Q (some (.int (nI 1))) h)
    (B4 : ¬ nI 4 ≤ v7 → vp_in (nI 6 + (nI 2 * v0)) n1)
    (B5 : ¬ nI 4 ≤ v7 → ¬ (((hG h v2 (nI 6 + (nI 2 * v0)).toNatClampNeg) >>> (v7 &&& 31)) &&& nI 1) = 0 → 0 ≤ v1 → vp_in ((nI 3 * v1) + nI 2) n2)
    (B6 : ¬ nI 4 ≤ v7 → ¬ (((hG h v2 (nI 6 + (nI 2 * v0)).toNatClampNeg) >>> (v7 &&& 31)) &&& nI 1) = 0 → 0 ≤ v1 → ¬ (((hG h v5 ((nI 3 * v1) + nI 2).toNatClampNeg) >>> (v7 &&& 31)) &&& nI 1) = nI 1 → vp_in (nI 3 * v1) n2)
    (H7 : ¬ nI 4 ≤ v7 → ¬ (((hG h v2 (nI 6 + (nI 2 * v0)).toNatClampNeg) >>> (v7 &&& 31)) &&& nI 1) = 0 → 0 ≤ v1 → ¬ (((hG h v5 ((nI 3 * v1) + nI 2).toNatClampNeg) >>> (v7 &&& 31)) &&& nI 1) = nI 1 → wpE 57 0 [some (.int v7), some (.int (hG h v5 (nI 3 * v1).toNatClampNeg)), some (.ref v3), some (.ref v4), none] [] h (0, 0) (fun r hh => wpE 58 97 [some (.int v0), some (.int v1), some (.ref v2), some (.ref v3), some (.ref v4), some (.ref v5), none, some (.int v7)] (r.toList ++ [.int v6]) hh (0, 0) Q))
    (B8 : ¬ nI 4 ≤ v7 → ¬ (((hG h v2 (nI 6 + (nI 2 * v0)).toNatClampNeg) >>> (v7 &&& 31)) &&& nI 1) = 0 → 0 ≤ v1 → (((hG h v5 ((nI 3 * v1) + nI 2).toNatClampNeg) >>> (v7 &&& 31)) &&& nI 1) = nI 1 → vp_in ((nI 12 + (nI 4 * v1)) + v7) n2)
    (H9 : ¬ nI 4 ≤ v7 → ¬ (((hG h v2 (nI 6 + (nI 2 * v0)).toNatClampNeg) >>> (v7 &&& 31)) &&& nI 1) = 0 → 0 ≤ v1 → (((hG h v5 ((nI 3 * v1) + nI 2).toNatClampNeg) >>> (v7 &&& 31)) &&& nI 1) = nI 1 → wpE 58 6 [some (.int v0), some (.int v1), some (.ref v2), some (.ref v3), some (.ref v4), some (.ref v5), some (.int (v6 + (hG h v5 ((nI 12 + (nI 4 * v1)) + v7).toNatClampNeg))), some (.int (v7 + nI 1))] [] h (0, 0) Q)
    (B10 : ¬ nI 4 ≤ v7 → ¬ (((hG h v2 (nI 6 + (nI 2 * v0)).toNatClampNeg) >>> (v7 &&& 31)) &&& nI 1) = 0 → ¬ 0 ≤ v1 → vp_in (nI 0) n1)
    (H11 : ¬ nI 4 ≤ v7 → ¬ (((hG h v2 (nI 6 + (nI 2 * v0)).toNatClampNeg) >>> (v7 &&& 31)) &&& nI 1) = 0 → ¬ 0 ≤ v1 → wpE 57 0 [some (.int v7), some (.int (hG h v2 (nI 0).toNatClampNeg)), some (.ref v3), some (.ref v4), none] [] h (0, 0) (fun r hh => wpE 58 48 [some (.int v0), some (.int v1), some (.ref v2), some (.ref v3), some (.ref v4), some (.ref v5), none, some (.int v7)] (r.toList ++ [.int v6]) hh (0, 0) Q))
    (H12 : ¬ nI 4 ≤ v7 → (((hG h v2 (nI 6 + (nI 2 * v0)).toNatClampNeg) >>> (v7 &&& 31)) &&& nI 1) = 0 → wpE 58 6 [some (.int v0), some (.int v1), some (.ref v2), some (.ref v3), some (.ref v4), some (.ref v5), some (.int v6), some (.int (v7 + nI 1))] [] h (0, 0) Q) :
    wpE 58 6 [some (.int v0), some (.int v1), some (.ref v2), some (.ref v3), some (.ref v4), some (.ref v5), some (.int v6), some (.int v7)] [] h (0, 0) Q :=
  vc_s (ct := fun pc => Nat.beq pc 6) 1000 false (And.intro (fun c1 => (Exists.intro 0 (Exists.intro n1 (And.intro k1 (And.intro (B1 c1) (And.intro (fun c2 => (H2 c1 c2)) (fun c3 => (H3 c1 c3)))))))) (fun c4 => (Exists.intro 0 (Exists.intro n1 (And.intro k1 (And.intro (B4 c4) (And.intro (fun c5 => (And.intro (fun c6 => (Exists.intro 0 (Exists.intro n2 (And.intro k2 (And.intro (B5 c4 c5 c6) (And.intro (fun c7 => (Exists.intro 0 (Exists.intro n2 (And.intro k2 (And.intro (B6 c4 c5 c6 c7) (And.intro (Nat.le_of_ble_eq_true rfl) (And.intro (Nat.le_of_ble_eq_true rfl) (And.intro (Nat.le_of_ble_eq_true rfl) (And.intro (Nat.le_of_ble_eq_true rfl) (wpE_m (fun _ _ HH => @wpE_w _ _ [some (.int v0), some (.int v1), some (.ref v2), some (.ref v3), some (.ref v4), some (.ref v5), none, some (.int v7)] _ _ _ _ _ (show LeL [some (.int v0), some (.int v1), some (.ref v2), some (.ref v3), some (.ref v4), some (.ref v5), none, some (.int v7)] [some (.int v0), some (.int v1), some (.ref v2), some (.ref v3), some (.ref v4), some (.ref v5), some (.int v6), some (.int v7)] from (And.intro rfl (And.intro rfl (And.intro rfl (And.intro rfl (And.intro rfl (And.intro rfl (And.intro rfl trivial)))))))) HH) (H7 c4 c5 c6 c7))))))))))) (fun c8 => (Exists.intro 0 (Exists.intro n2 (And.intro k2 (And.intro (B8 c4 c5 c6 c8) (And.intro (Nat.le_of_ble_eq_true rfl) (And.intro (Nat.le_of_ble_eq_true rfl) (H9 c4 c5 c6 c8)))))))))))))) (fun c9 => (Exists.intro 0 (Exists.intro n1 (And.intro k1 (And.intro (B10 c4 c5 c9) (And.intro (Nat.le_of_ble_eq_true rfl) (And.intro (Nat.le_of_ble_eq_true rfl) (And.intro (Nat.le_of_ble_eq_true rfl) (And.intro (Nat.le_of_ble_eq_true rfl) (wpE_m (fun _ _ HH => @wpE_w _ _ [some (.int v0), some (.int v1), some (.ref v2), some (.ref v3), some (.ref v4), some (.ref v5), none, some (.int v7)] _ _ _ _ _ (show LeL [some (.int v0), some (.int v1), some (.ref v2), some (.ref v3), some (.ref v4), some (.ref v5), none, some (.int v7)] [some (.int v0), some (.int v1), some (.ref v2), some (.ref v3), some (.ref v4), some (.ref v5), some (.int v6), some (.int v7)] from (And.intro rfl (And.intro rfl (And.intro rfl (And.intro rfl (And.intro rfl (And.intro rfl (And.intro rfl trivial)))))))) HH) (H11 c4 c5 c9))))))))))))) (fun c10 => (And.intro (Nat.le_of_ble_eq_true rfl) (H12 c4 c10))))))))))
/-- SnapshotRingsLaw.holds from 97 -/
theorem r_L_holds_97 {v0 : Int32} {v1 : Int32} {v2 : Nat} {v3 : Nat} {v4 : Nat} {v5 : Nat} {v7 : Int32} {s0 : Int32} {s1 : Int32} {h : sn_H} {Q : Option Value → sn_H → Prop}
    (H1 : wpE 58 6 [some (.int v0), some (.int v1), some (.ref v2), some (.ref v3), some (.ref v4), some (.ref v5), some (.int (s0 + s1)), some (.int (v7 + nI 1))] [] h (0, 0) Q) :
    wpE 58 97 [some (.int v0), some (.int v1), some (.ref v2), some (.ref v3), some (.ref v4), some (.ref v5), none, some (.int v7)] [.int s1, .int s0] h (0, 0) Q :=
  vc_s (ct := fun pc => Nat.beq pc 6) 1000 false (And.intro (Nat.le_of_ble_eq_true rfl) (And.intro (Nat.le_of_ble_eq_true rfl) H1))
/-- SnapshotRingsLaw.holds from 48 -/
theorem r_L_holds_48 {v0 : Int32} {v1 : Int32} {v2 : Nat} {v3 : Nat} {v4 : Nat} {v5 : Nat} {v7 : Int32} {s0 : Int32} {s1 : Int32} {h : sn_H} {Q : Option Value → sn_H → Prop}
    (H1 : wpE 58 6 [some (.int v0), some (.int v1), some (.ref v2), some (.ref v3), some (.ref v4), some (.ref v5), some (.int (s0 + s1)), some (.int (v7 + nI 1))] [] h (0, 0) Q) :
    wpE 58 48 [some (.int v0), some (.int v1), some (.ref v2), some (.ref v3), some (.ref v4), some (.ref v5), none, some (.int v7)] [.int s1, .int s0] h (0, 0) Q :=
  vc_s (ct := fun pc => Nat.beq pc 6) 1000 false (And.intro (Nat.le_of_ble_eq_true rfl) (And.intro (Nat.le_of_ble_eq_true rfl) H1))
