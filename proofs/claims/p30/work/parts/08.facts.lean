/-! ===== the words behind the tables, two ===== -/
theorem sn_all_split {α : Type} (l : List α) (f : α → Bool) (k : Nat) (h1 : (l.take k).all f = true) (h2 : (l.drop k).all f = true) : l.all f = true := by
  rw [← List.take_append_drop k l, List.all_append, h1, h2]; rfl
theorem sn_okm59 : okM 59 = true := by
  unfold okM
  refine sn_all_split _ _ 8 (by simpa [List.drop_drop] using sn_okm59_0) ?_
  refine sn_all_split _ _ 8 (by simpa [List.drop_drop] using sn_okm59_1) ?_
  rw [List.drop_drop]
  refine sn_all_split _ _ 8 (by simpa [List.drop_drop] using sn_okm59_2) ?_
  rw [List.drop_drop]
  refine sn_all_split _ _ 8 (by simpa [List.drop_drop] using sn_okm59_3) ?_
  rw [List.drop_drop]
  refine sn_all_split _ _ 8 (by simpa [List.drop_drop] using sn_okm59_4) ?_
  rw [List.drop_drop]
  refine sn_all_split _ _ 8 (by simpa [List.drop_drop] using sn_okm59_5) ?_
  rw [List.drop_drop]
  refine sn_all_split _ _ 8 (by simpa [List.drop_drop] using sn_okm59_6) ?_
  rw [List.drop_drop]
  refine sn_all_split _ _ 8 (by simpa [List.drop_drop] using sn_okm59_7) ?_
  rw [List.drop_drop]
  refine sn_all_split _ _ 8 (by simpa [List.drop_drop] using sn_okm59_8) ?_
  rw [List.drop_drop]
  refine sn_all_split _ _ 8 (by simpa [List.drop_drop] using sn_okm59_9) ?_
  rw [List.drop_drop]
  refine sn_all_split _ _ 8 (by simpa [List.drop_drop] using sn_okm59_10) ?_
  rw [List.drop_drop]
  refine sn_all_split _ _ 8 (by simpa [List.drop_drop] using sn_okm59_11) ?_
  rw [List.drop_drop]
  refine sn_all_split _ _ 8 (by simpa [List.drop_drop] using sn_okm59_12) ?_
  rw [List.drop_drop]
  refine sn_all_split _ _ 8 (by simpa [List.drop_drop] using sn_okm59_13) ?_
  rw [List.drop_drop]
  refine sn_all_split _ _ 8 (by simpa [List.drop_drop] using sn_okm59_14) ?_
  rw [List.drop_drop]
  have h := sn_okm59_15
  rw [List.take_of_length_le (by decide +kernel)] at h
  exact h
theorem sn_okm80 : okM 80 = true := by
  unfold okM
  refine sn_all_split _ _ 8 (by simpa [List.drop_drop] using sn_okm80_0) ?_
  refine sn_all_split _ _ 8 (by simpa [List.drop_drop] using sn_okm80_1) ?_
  rw [List.drop_drop]
  refine sn_all_split _ _ 8 (by simpa [List.drop_drop] using sn_okm80_2) ?_
  rw [List.drop_drop]
  refine sn_all_split _ _ 8 (by simpa [List.drop_drop] using sn_okm80_3) ?_
  rw [List.drop_drop]
  refine sn_all_split _ _ 8 (by simpa [List.drop_drop] using sn_okm80_4) ?_
  rw [List.drop_drop]
  refine sn_all_split _ _ 8 (by simpa [List.drop_drop] using sn_okm80_5) ?_
  rw [List.drop_drop]
  refine sn_all_split _ _ 8 (by simpa [List.drop_drop] using sn_okm80_6) ?_
  rw [List.drop_drop]
  refine sn_all_split _ _ 8 (by simpa [List.drop_drop] using sn_okm80_7) ?_
  rw [List.drop_drop]
  refine sn_all_split _ _ 8 (by simpa [List.drop_drop] using sn_okm80_8) ?_
  rw [List.drop_drop]
  refine sn_all_split _ _ 8 (by simpa [List.drop_drop] using sn_okm80_9) ?_
  rw [List.drop_drop]
  refine sn_all_split _ _ 8 (by simpa [List.drop_drop] using sn_okm80_10) ?_
  rw [List.drop_drop]
  refine sn_all_split _ _ 8 (by simpa [List.drop_drop] using sn_okm80_11) ?_
  rw [List.drop_drop]
  refine sn_all_split _ _ 8 (by simpa [List.drop_drop] using sn_okm80_12) ?_
  rw [List.drop_drop]
  refine sn_all_split _ _ 8 (by simpa [List.drop_drop] using sn_okm80_13) ?_
  rw [List.drop_drop]
  refine sn_all_split _ _ 8 (by simpa [List.drop_drop] using sn_okm80_14) ?_
  rw [List.drop_drop]
  have h := sn_okm80_15
  rw [List.take_of_length_le (by decide +kernel)] at h
  exact h
theorem sn_okall : ∀ m, m < 81 → okM m = true := lt_s (lt_s (lt_s (lt_s (lt_s (lt_s (lt_s (lt_s (lt_s (lt_s (lt_s (lt_s (lt_s (lt_s (lt_s (lt_s (lt_s (lt_s (lt_s (lt_s (lt_s (lt_s (lt_s (lt_s (lt_s (lt_s (lt_s (lt_s (lt_s (lt_s (lt_s (lt_s (lt_s (lt_s (lt_s (lt_s (lt_s (lt_s (lt_s (lt_s (lt_s (lt_s (lt_s (lt_s (lt_s (lt_s (lt_s (lt_s (lt_s (lt_s (lt_s (lt_s (lt_s (lt_s (lt_s (lt_s (lt_s (lt_s (lt_s (lt_s (lt_s (lt_s (lt_s (lt_s (lt_s (lt_s (lt_s (lt_s (lt_s (lt_s (lt_s (lt_s (lt_s (lt_s (lt_s (lt_s (lt_s (lt_s (lt_s (lt_s (lt_s (lt_0) sn_okm0) sn_okm1) sn_okm2) sn_okm3) sn_okm4) sn_okm5) sn_okm6) sn_okm7) sn_okm8) sn_okm9) sn_okm10) sn_okm11) sn_okm12) sn_okm13) sn_okm14) sn_okm15) sn_okm16) sn_okm17) sn_okm18) sn_okm19) sn_okm20) sn_okm21) sn_okm22) sn_okm23) sn_okm24) sn_okm25) sn_okm26) sn_okm27) sn_okm28) sn_okm29) sn_okm30) sn_okm31) sn_okm32) sn_okm33) sn_okm34) sn_okm35) sn_okm36) sn_okm37) sn_okm38) sn_okm39) sn_okm40) sn_okm41) sn_okm42) sn_okm43) sn_okm44) sn_okm45) sn_okm46) sn_okm47) sn_okm48) sn_okm49) sn_okm50) sn_okm51) sn_okm52) sn_okm53) sn_okm54) sn_okm55) sn_okm56) sn_okm57) sn_okm58) sn_okm59) sn_okm60) sn_okm61) sn_okm62) sn_okm63) sn_okm64) sn_okm65) sn_okm66) sn_okm67) sn_okm68) sn_okm69) sn_okm70) sn_okm71) sn_okm72) sn_okm73) sn_okm74) sn_okm75) sn_okm76) sn_okm77) sn_okm78) sn_okm79) sn_okm80
set_option maxRecDepth 100000 in
theorem sn_ok {m pc : Nat} {e : sn_E} (h : sn_cd m pc = some e) : okB m pc e = true := by
  by_cases hm : m < sn_NM
  · exact sn_ok1 (sn_okall m hm) h
  · exfalso
    unfold sn_cd sn_ch at h
    have h1 : sn_nth sn_chs m = none := by
      rw [sn_nth_eq, List.getElem?_eq_none]
      exact Nat.le_trans (show sn_chs.length ≤ sn_NM from Nat.le_of_ble_eq_true rfl) (Nat.not_lt.mp hm)
    rw [h1] at h
    simp [sn_nth, sn_find] at h
theorem sn_cn_ok : ∀ q ∈ sn_cnl, lw_tbl[q.2.2.2.2]? = some (bif Nat.beq q.2.2.2.1 2 then .constantLong (sn_oN q.1) q.2.1 (lN q.2.2.1) else .constant (sn_oN q.1) q.2.1 (kI q.2.2.1 q.2.2.2.1)) := by decide +kernel
theorem sn_kl_ok : ∀ q ∈ sn_kl, lw_tbl[q.2.2.2]? = some (.classLink (sn_oN q.1) q.2.1 (sn_oN q.2.2.1)) := by decide +kernel
theorem sn_al_ok : ∀ q ∈ sn_al, lw_tbl[q.2.2]? = some (.methodLink (sn_oN q.1) q.2.1 arraycopyName) := by decide +kernel
theorem sn_ac_ok : lw_tbl[sn_ac.1]? = some (.static arraycopyName) ∧ lw_tbl[sn_ac.2.1]? = some (.native arraycopyName) ∧ lw_tbl[sn_ac.2.2]? = some (.initialized "java/lang/System") := by decide +kernel
theorem sn_ol_ok : ∀ q ∈ sn_ol, lw_tbl[q.2.2]? = some (.methodLink (sn_oN q.1) q.2.1 objectInit) := by decide +kernel
theorem sn_oc_ok : lw_tbl[sn_oc.1]? = some (.instanceMethod objectInit) ∧ lw_tbl[sn_oc.2]? = some (.code objectInit ⟨#[0xb1]⟩ 1 none) := by decide +kernel
theorem sn_nl_ok : ∀ q ∈ sn_nl, lw_tbl[q.2.2]? = some (.methodLink (sn_oN q.1) q.2.1 Lib.Math.min.name) := by decide +kernel
theorem sn_nc_ok : lw_tbl[sn_nc.1]? = some (.static Lib.Math.min.name) ∧ lw_tbl[sn_nc.2.1]? = some (.initialized "java/lang/Math") ∧ lw_tbl[sn_nc.2.2]? = some (.code Lib.Math.min.name Lib.Math.min.code 2 (some .int)) := by decide +kernel
theorem sn_ki_ok : ∀ ci, ci < sn_cl.length → lw_tbl[((sn_nth sn_ki ci).getD (0, 0)).1]? = some (.instantiable (sn_oN ci) (sn_fN ci)) ∧ lw_tbl[((sn_nth sn_ki ci).getD (0, 0)).2]? = some (.initialized (sn_oN ci)) := by decide +kernel
theorem sn_ar_ok : lw_tbl[sn_ar.1]? = some (.arrayClass .int) ∧ lw_tbl[sn_ar.2.1]? = some (.arrayClass .char) ∧ lw_tbl[sn_ar.2.2]? = some (.arrayOver (.object (sn_oN 1))) := by decide +kernel
theorem sn_meth {y : Nat} (hy : y + 1 < sn_NM) : lw_tbl[sn_in y]? = some (.initialized (sn_mY y).cls) ∧ (sn_mY y).cls = sn_oN (sn_mO y) ∧ ((sn_mY y).cls ≠ "java/lang/invoke/MethodHandle" ∧ (sn_mY y).cls ≠ "java/lang/invoke/VarHandle") ∧ Jvm.plainName (sn_mY y).cls = true ∧ (parseMethodDescriptor (sn_mY y).desc).map (fun d => d.parameters.length) = some (bif sn_st y then sn_NA y else sn_NA y - 1) ∧ (sn_st y = false → 1 ≤ sn_NA y) ∧ ((sn_mY y).name = "<init>" → sn_mR y = none) ∧ lw_tbl[sn_ii y]? = some (bif sn_st y then .static (sn_mY y) else .instanceMethod (sn_mY y)) ∧ (sn_st y = false → (sn_mY y).name ≠ "<init>" → lw_tbl[sn_is y]? = some (.selects (sn_mY y).cls (sn_mY y) (sn_mY y))) ∧ lw_tbl[sn_ic y]? = some (.code (sn_mY y) (sn_mB y) (sn_mL y) (sn_mR y)) := ⟨sn_in1_a y (Nat.lt_of_succ_lt_succ hy), sn_in2_a y (Nat.lt_of_succ_lt_succ hy), sn_in3_a y (Nat.lt_of_succ_lt_succ hy), sn_in4_a y (Nat.lt_of_succ_lt_succ hy), sn_in5_a y (Nat.lt_of_succ_lt_succ hy), sn_in6_a y (Nat.lt_of_succ_lt_succ hy), sn_in7_a y (Nat.lt_of_succ_lt_succ hy), sn_ii_a y (Nat.lt_of_succ_lt_succ hy), sn_is_a y (Nat.lt_of_succ_lt_succ hy), sn_mwall y (Nat.lt_of_succ_lt_succ hy)⟩
def sn_tyc (ci : Nat) : Nat → FieldType := match ci with
  | 0 => sn_ty0
  | 1 => sn_ty1
  | 2 => sn_ty2
  | 3 => sn_ty3
  | _ => sn_ty4
def sn_clsP (ci : Nat) : Prop := sn_cl[ci]? = some (sn_cT ci) ∧ (sn_cT ci).1 = sn_oN ci ∧ (sn_cT ci).2.2 = sn_fN ci ∧ (∀ k, k < sn_fN ci → lw_tbl[((sn_nth sn_lyl ci).getD []).getD k 0]? = some (u_lay (sn_cT ci).1 (sn_cT ci).2.1 k)) ∧ (∀ k, k < sn_fN ci → parseFieldDescriptor ((sn_cT ci).2.1 k).2.2.1 = some (sn_tyc ci k)) ∧ (∀ k, k < sn_fN ci → ((sn_cT ci).2.1 k).1 = (sn_cT ci).1) ∧ (∀ k, k < sn_fN ci → ((sn_cT ci).2.1 k).2.2.2 = sn_ff ci k) ∧ (∀ k, k < sn_fN ci → sn_fR ci k = true → refKind (sn_tyc ci k) = true ∧ defaultValue (sn_tyc ci k) = .null ∧ fits (sn_tyc ci k) (.ref 0) = true) ∧ (∀ k, k < sn_fN ci → sn_fR ci k = false → sn_tyc ci k = .int) ∧ (∀ a, a < sn_fN ci → ∀ b, b < sn_fN ci → a ≠ b → ((sn_cT ci).2.1 a).2.1 ≠ ((sn_cT ci).2.1 b).2.1)
theorem sn_cls0 : sn_clsP 0 := ⟨rfl, rfl, rfl, by decide +kernel, by decide +kernel, by decide +kernel, by decide +kernel, by decide +kernel, by decide +kernel, by decide +kernel⟩
theorem sn_cls1 : sn_clsP 1 := ⟨rfl, rfl, rfl, by decide +kernel, by decide +kernel, by decide +kernel, by decide +kernel, by decide +kernel, by decide +kernel, by decide +kernel⟩
theorem sn_cls2 : sn_clsP 2 := ⟨rfl, rfl, rfl, by decide +kernel, by decide +kernel, by decide +kernel, by decide +kernel, by decide +kernel, by decide +kernel, by decide +kernel⟩
theorem sn_cls3 : sn_clsP 3 := ⟨rfl, rfl, rfl, by decide +kernel, by decide +kernel, by decide +kernel, by decide +kernel, by decide +kernel, by decide +kernel, by decide +kernel⟩
theorem sn_cls4 : sn_clsP 4 := ⟨rfl, rfl, rfl, by decide +kernel, by decide +kernel, by decide +kernel, by decide +kernel, by decide +kernel, by decide +kernel, by decide +kernel⟩
theorem sn_cls : ∀ ci, ci < sn_cl.length → sn_clsP ci := by
  show ∀ ci, ci < 5 → sn_clsP ci
  exact lt_s (lt_s (lt_s (lt_s (lt_s (lt_0) sn_cls0) sn_cls1) sn_cls2) sn_cls3) sn_cls4
