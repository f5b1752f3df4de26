/-! ===== count (rows of whole, numbers of this claim) ===== -/
/-- what count tells -/
def cnV (σ : sn_V) (c j : Nat) : Int32 := match j with
  | 0 => nI c
  | 1 => bcI (σ 0 3)
  | 2 => σ 0 0
  | 3 => nI (min 16 c)
  | 4 => σ 1 1
  | 5 => σ 1 2
  | 6 => σ 1 3
  | _ => σ 0 2
theorem s_X_count {h : sn_H} {c : Nat} {σ : sn_V} {s : Nat} {st : Nat → sn_V} {n : Nat} {tx : Nat → Nat} {j : Nat} {Q : Option Value → sn_H → Prop} (C : CI h σ s st n tx) (hσ : σ 0 1 = nI c) (hc : c < 2 ^ 30) (hj : j < 8) (H : Q (some (.int (cnV σ c j))) h) : wpE 75 0 [some (.ref 1), some (.int (nI j))] [] h (0, 0) Q := by
  have X := C.X
  have S := C.A.1
  have g1 : hG h 2 1 = nI c := (C.g0 1).trans hσ
  have gr : ∀ k, k < 8 → hG h (2 + 1) (nI k).toNatClampNeg = σ 1 k := fun k hk => by rw [cl (by omega : k < 2 ^ 31)]; exact C.A.2 1 (by decide) k
  have e : j = 0 ∨ j = 1 ∨ j = 2 ∨ j = 3 ∨ j = 4 ∨ j = 5 ∨ j = 6 ∨ j = 7 := by omega
  rcases e with rfl | rfl | rfl | rfl | rfl | rfl | rfl | rfl <;> refine r_X_count_0 X.1 X.2.1 S.1 S.f4 S.k1 ?_ ?_ ?_ ?_ (fun _ => inb (by omega)) ?_ (fun _ => inb (by omega)) ?_ (fun _ => inb (by omega)) ?_ ?_ ?_ <;> intro z <;> first | exact absurd z (by decide) | skip
  · rw [g1]; exact H
  · rw [C.g0]; exact s_I_bitCount (r_X_count_66 H)
  · rw [C.g0]; exact H
  · rw [g1, min16 hc]; exact H
  · rw [gr 1 (by omega)]; exact H
  · rw [gr 2 (by omega)]; exact H
  · rw [gr 3 (by omega)]; exact H
  · rw [C.g0]; exact H
