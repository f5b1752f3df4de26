/-! ===== the words behind the tables, one ===== -/
set_option maxRecDepth 100000 in
theorem sn_mw0 : lw_tbl[sn_ic 0]? = some (.code (sn_mY 0) (sn_mB 0) (sn_mL 0) (sn_mR 0)) := rfl
set_option maxRecDepth 100000 in
theorem sn_mw1 : lw_tbl[sn_ic 1]? = some (.code (sn_mY 1) (sn_mB 1) (sn_mL 1) (sn_mR 1)) := rfl
set_option maxRecDepth 100000 in
theorem sn_mw2 : lw_tbl[sn_ic 2]? = some (.code (sn_mY 2) (sn_mB 2) (sn_mL 2) (sn_mR 2)) := rfl
set_option maxRecDepth 100000 in
theorem sn_mw3 : lw_tbl[sn_ic 3]? = some (.code (sn_mY 3) (sn_mB 3) (sn_mL 3) (sn_mR 3)) := rfl
set_option maxRecDepth 100000 in
theorem sn_mw4 : lw_tbl[sn_ic 4]? = some (.code (sn_mY 4) (sn_mB 4) (sn_mL 4) (sn_mR 4)) := rfl
set_option maxRecDepth 100000 in
theorem sn_mw5 : lw_tbl[sn_ic 5]? = some (.code (sn_mY 5) (sn_mB 5) (sn_mL 5) (sn_mR 5)) := rfl
set_option maxRecDepth 100000 in
theorem sn_mw6 : lw_tbl[sn_ic 6]? = some (.code (sn_mY 6) (sn_mB 6) (sn_mL 6) (sn_mR 6)) := rfl
set_option maxRecDepth 100000 in
theorem sn_mw7 : lw_tbl[sn_ic 7]? = some (.code (sn_mY 7) (sn_mB 7) (sn_mL 7) (sn_mR 7)) := rfl
set_option maxRecDepth 100000 in
theorem sn_mw8 : lw_tbl[sn_ic 8]? = some (.code (sn_mY 8) (sn_mB 8) (sn_mL 8) (sn_mR 8)) := rfl
set_option maxRecDepth 100000 in
theorem sn_mw9 : lw_tbl[sn_ic 9]? = some (.code (sn_mY 9) (sn_mB 9) (sn_mL 9) (sn_mR 9)) := rfl
set_option maxRecDepth 100000 in
theorem sn_mw10 : lw_tbl[sn_ic 10]? = some (.code (sn_mY 10) (sn_mB 10) (sn_mL 10) (sn_mR 10)) := rfl
set_option maxRecDepth 100000 in
theorem sn_mw11 : lw_tbl[sn_ic 11]? = some (.code (sn_mY 11) (sn_mB 11) (sn_mL 11) (sn_mR 11)) := rfl
set_option maxRecDepth 100000 in
theorem sn_mw12 : lw_tbl[sn_ic 12]? = some (.code (sn_mY 12) (sn_mB 12) (sn_mL 12) (sn_mR 12)) := rfl
set_option maxRecDepth 100000 in
theorem sn_mw13 : lw_tbl[sn_ic 13]? = some (.code (sn_mY 13) (sn_mB 13) (sn_mL 13) (sn_mR 13)) := rfl
set_option maxRecDepth 100000 in
theorem sn_mw14 : lw_tbl[sn_ic 14]? = some (.code (sn_mY 14) (sn_mB 14) (sn_mL 14) (sn_mR 14)) := rfl
set_option maxRecDepth 100000 in
theorem sn_mw15 : lw_tbl[sn_ic 15]? = some (.code (sn_mY 15) (sn_mB 15) (sn_mL 15) (sn_mR 15)) := rfl
set_option maxRecDepth 100000 in
theorem sn_mw16 : lw_tbl[sn_ic 16]? = some (.code (sn_mY 16) (sn_mB 16) (sn_mL 16) (sn_mR 16)) := rfl
set_option maxRecDepth 100000 in
theorem sn_mw17 : lw_tbl[sn_ic 17]? = some (.code (sn_mY 17) (sn_mB 17) (sn_mL 17) (sn_mR 17)) := rfl
set_option maxRecDepth 100000 in
theorem sn_mw18 : lw_tbl[sn_ic 18]? = some (.code (sn_mY 18) (sn_mB 18) (sn_mL 18) (sn_mR 18)) := rfl
set_option maxRecDepth 100000 in
theorem sn_mw19 : lw_tbl[sn_ic 19]? = some (.code (sn_mY 19) (sn_mB 19) (sn_mL 19) (sn_mR 19)) := rfl
set_option maxRecDepth 100000 in
theorem sn_mw20 : lw_tbl[sn_ic 20]? = some (.code (sn_mY 20) (sn_mB 20) (sn_mL 20) (sn_mR 20)) := rfl
set_option maxRecDepth 100000 in
theorem sn_mw21 : lw_tbl[sn_ic 21]? = some (.code (sn_mY 21) (sn_mB 21) (sn_mL 21) (sn_mR 21)) := rfl
set_option maxRecDepth 100000 in
theorem sn_mw22 : lw_tbl[sn_ic 22]? = some (.code (sn_mY 22) (sn_mB 22) (sn_mL 22) (sn_mR 22)) := rfl
set_option maxRecDepth 100000 in
theorem sn_mw23 : lw_tbl[sn_ic 23]? = some (.code (sn_mY 23) (sn_mB 23) (sn_mL 23) (sn_mR 23)) := rfl
set_option maxRecDepth 100000 in
theorem sn_mw24 : lw_tbl[sn_ic 24]? = some (.code (sn_mY 24) (sn_mB 24) (sn_mL 24) (sn_mR 24)) := rfl
set_option maxRecDepth 100000 in
theorem sn_mw25 : lw_tbl[sn_ic 25]? = some (.code (sn_mY 25) (sn_mB 25) (sn_mL 25) (sn_mR 25)) := rfl
set_option maxRecDepth 100000 in
theorem sn_mw26 : lw_tbl[sn_ic 26]? = some (.code (sn_mY 26) (sn_mB 26) (sn_mL 26) (sn_mR 26)) := rfl
set_option maxRecDepth 100000 in
theorem sn_mw27 : lw_tbl[sn_ic 27]? = some (.code (sn_mY 27) (sn_mB 27) (sn_mL 27) (sn_mR 27)) := rfl
set_option maxRecDepth 100000 in
theorem sn_mw28 : lw_tbl[sn_ic 28]? = some (.code (sn_mY 28) (sn_mB 28) (sn_mL 28) (sn_mR 28)) := rfl
set_option maxRecDepth 100000 in
theorem sn_mw29 : lw_tbl[sn_ic 29]? = some (.code (sn_mY 29) (sn_mB 29) (sn_mL 29) (sn_mR 29)) := rfl
set_option maxRecDepth 100000 in
theorem sn_mw30 : lw_tbl[sn_ic 30]? = some (.code (sn_mY 30) (sn_mB 30) (sn_mL 30) (sn_mR 30)) := rfl
set_option maxRecDepth 100000 in
theorem sn_mw31 : lw_tbl[sn_ic 31]? = some (.code (sn_mY 31) (sn_mB 31) (sn_mL 31) (sn_mR 31)) := rfl
set_option maxRecDepth 100000 in
theorem sn_mw32 : lw_tbl[sn_ic 32]? = some (.code (sn_mY 32) (sn_mB 32) (sn_mL 32) (sn_mR 32)) := rfl
set_option maxRecDepth 100000 in
theorem sn_mw33 : lw_tbl[sn_ic 33]? = some (.code (sn_mY 33) (sn_mB 33) (sn_mL 33) (sn_mR 33)) := rfl
set_option maxRecDepth 100000 in
theorem sn_mw34 : lw_tbl[sn_ic 34]? = some (.code (sn_mY 34) (sn_mB 34) (sn_mL 34) (sn_mR 34)) := rfl
set_option maxRecDepth 100000 in
theorem sn_mw35 : lw_tbl[sn_ic 35]? = some (.code (sn_mY 35) (sn_mB 35) (sn_mL 35) (sn_mR 35)) := rfl
set_option maxRecDepth 100000 in
theorem sn_mw36 : lw_tbl[sn_ic 36]? = some (.code (sn_mY 36) (sn_mB 36) (sn_mL 36) (sn_mR 36)) := rfl
set_option maxRecDepth 100000 in
theorem sn_mw37 : lw_tbl[sn_ic 37]? = some (.code (sn_mY 37) (sn_mB 37) (sn_mL 37) (sn_mR 37)) := rfl
set_option maxRecDepth 100000 in
theorem sn_mw38 : lw_tbl[sn_ic 38]? = some (.code (sn_mY 38) (sn_mB 38) (sn_mL 38) (sn_mR 38)) := rfl
set_option maxRecDepth 100000 in
theorem sn_mw39 : lw_tbl[sn_ic 39]? = some (.code (sn_mY 39) (sn_mB 39) (sn_mL 39) (sn_mR 39)) := rfl
set_option maxRecDepth 100000 in
theorem sn_mw40 : lw_tbl[sn_ic 40]? = some (.code (sn_mY 40) (sn_mB 40) (sn_mL 40) (sn_mR 40)) := rfl
set_option maxRecDepth 100000 in
theorem sn_mw41 : lw_tbl[sn_ic 41]? = some (.code (sn_mY 41) (sn_mB 41) (sn_mL 41) (sn_mR 41)) := rfl
set_option maxRecDepth 100000 in
theorem sn_mw42 : lw_tbl[sn_ic 42]? = some (.code (sn_mY 42) (sn_mB 42) (sn_mL 42) (sn_mR 42)) := rfl
set_option maxRecDepth 100000 in
theorem sn_mw43 : lw_tbl[sn_ic 43]? = some (.code (sn_mY 43) (sn_mB 43) (sn_mL 43) (sn_mR 43)) := rfl
set_option maxRecDepth 100000 in
theorem sn_mw44 : lw_tbl[sn_ic 44]? = some (.code (sn_mY 44) (sn_mB 44) (sn_mL 44) (sn_mR 44)) := rfl
set_option maxRecDepth 100000 in
theorem sn_mw45 : lw_tbl[sn_ic 45]? = some (.code (sn_mY 45) (sn_mB 45) (sn_mL 45) (sn_mR 45)) := rfl
set_option maxRecDepth 100000 in
theorem sn_mw46 : lw_tbl[sn_ic 46]? = some (.code (sn_mY 46) (sn_mB 46) (sn_mL 46) (sn_mR 46)) := rfl
set_option maxRecDepth 100000 in
theorem sn_mw47 : lw_tbl[sn_ic 47]? = some (.code (sn_mY 47) (sn_mB 47) (sn_mL 47) (sn_mR 47)) := rfl
set_option maxRecDepth 100000 in
theorem sn_mw48 : lw_tbl[sn_ic 48]? = some (.code (sn_mY 48) (sn_mB 48) (sn_mL 48) (sn_mR 48)) := rfl
set_option maxRecDepth 100000 in
theorem sn_mw49 : lw_tbl[sn_ic 49]? = some (.code (sn_mY 49) (sn_mB 49) (sn_mL 49) (sn_mR 49)) := rfl
set_option maxRecDepth 100000 in
theorem sn_mw50 : lw_tbl[sn_ic 50]? = some (.code (sn_mY 50) (sn_mB 50) (sn_mL 50) (sn_mR 50)) := rfl
set_option maxRecDepth 100000 in
theorem sn_mw51 : lw_tbl[sn_ic 51]? = some (.code (sn_mY 51) (sn_mB 51) (sn_mL 51) (sn_mR 51)) := rfl
set_option maxRecDepth 100000 in
theorem sn_mw52 : lw_tbl[sn_ic 52]? = some (.code (sn_mY 52) (sn_mB 52) (sn_mL 52) (sn_mR 52)) := rfl
set_option maxRecDepth 100000 in
theorem sn_mw53 : lw_tbl[sn_ic 53]? = some (.code (sn_mY 53) (sn_mB 53) (sn_mL 53) (sn_mR 53)) := rfl
set_option maxRecDepth 100000 in
theorem sn_mw54 : lw_tbl[sn_ic 54]? = some (.code (sn_mY 54) (sn_mB 54) (sn_mL 54) (sn_mR 54)) := rfl
set_option maxRecDepth 100000 in
theorem sn_mw55 : lw_tbl[sn_ic 55]? = some (.code (sn_mY 55) (sn_mB 55) (sn_mL 55) (sn_mR 55)) := rfl
set_option maxRecDepth 100000 in
theorem sn_mw56 : lw_tbl[sn_ic 56]? = some (.code (sn_mY 56) (sn_mB 56) (sn_mL 56) (sn_mR 56)) := rfl
set_option maxRecDepth 100000 in
theorem sn_mw57 : lw_tbl[sn_ic 57]? = some (.code (sn_mY 57) (sn_mB 57) (sn_mL 57) (sn_mR 57)) := rfl
set_option maxRecDepth 100000 in
theorem sn_mw58 : lw_tbl[sn_ic 58]? = some (.code (sn_mY 58) (sn_mB 58) (sn_mL 58) (sn_mR 58)) := rfl
set_option maxRecDepth 100000 in
theorem sn_mw59 : lw_tbl[sn_ic 59]? = some (.code (sn_mY 59) (sn_mB 59) (sn_mL 59) (sn_mR 59)) := rfl
set_option maxRecDepth 100000 in
theorem sn_mw60 : lw_tbl[sn_ic 60]? = some (.code (sn_mY 60) (sn_mB 60) (sn_mL 60) (sn_mR 60)) := rfl
set_option maxRecDepth 100000 in
theorem sn_mw61 : lw_tbl[sn_ic 61]? = some (.code (sn_mY 61) (sn_mB 61) (sn_mL 61) (sn_mR 61)) := rfl
set_option maxRecDepth 100000 in
theorem sn_mw62 : lw_tbl[sn_ic 62]? = some (.code (sn_mY 62) (sn_mB 62) (sn_mL 62) (sn_mR 62)) := rfl
set_option maxRecDepth 100000 in
theorem sn_mw63 : lw_tbl[sn_ic 63]? = some (.code (sn_mY 63) (sn_mB 63) (sn_mL 63) (sn_mR 63)) := rfl
set_option maxRecDepth 100000 in
theorem sn_mw64 : lw_tbl[sn_ic 64]? = some (.code (sn_mY 64) (sn_mB 64) (sn_mL 64) (sn_mR 64)) := rfl
set_option maxRecDepth 100000 in
theorem sn_mw65 : lw_tbl[sn_ic 65]? = some (.code (sn_mY 65) (sn_mB 65) (sn_mL 65) (sn_mR 65)) := rfl
set_option maxRecDepth 100000 in
theorem sn_mw66 : lw_tbl[sn_ic 66]? = some (.code (sn_mY 66) (sn_mB 66) (sn_mL 66) (sn_mR 66)) := rfl
set_option maxRecDepth 100000 in
theorem sn_mw67 : lw_tbl[sn_ic 67]? = some (.code (sn_mY 67) (sn_mB 67) (sn_mL 67) (sn_mR 67)) := rfl
set_option maxRecDepth 100000 in
theorem sn_mw68 : lw_tbl[sn_ic 68]? = some (.code (sn_mY 68) (sn_mB 68) (sn_mL 68) (sn_mR 68)) := rfl
set_option maxRecDepth 100000 in
theorem sn_mw69 : lw_tbl[sn_ic 69]? = some (.code (sn_mY 69) (sn_mB 69) (sn_mL 69) (sn_mR 69)) := rfl
set_option maxRecDepth 100000 in
theorem sn_mw70 : lw_tbl[sn_ic 70]? = some (.code (sn_mY 70) (sn_mB 70) (sn_mL 70) (sn_mR 70)) := rfl
set_option maxRecDepth 100000 in
theorem sn_mw71 : lw_tbl[sn_ic 71]? = some (.code (sn_mY 71) (sn_mB 71) (sn_mL 71) (sn_mR 71)) := rfl
set_option maxRecDepth 100000 in
theorem sn_mw72 : lw_tbl[sn_ic 72]? = some (.code (sn_mY 72) (sn_mB 72) (sn_mL 72) (sn_mR 72)) := rfl
set_option maxRecDepth 100000 in
theorem sn_mw73 : lw_tbl[sn_ic 73]? = some (.code (sn_mY 73) (sn_mB 73) (sn_mL 73) (sn_mR 73)) := rfl
set_option maxRecDepth 100000 in
theorem sn_mw74 : lw_tbl[sn_ic 74]? = some (.code (sn_mY 74) (sn_mB 74) (sn_mL 74) (sn_mR 74)) := rfl
set_option maxRecDepth 100000 in
theorem sn_mw75 : lw_tbl[sn_ic 75]? = some (.code (sn_mY 75) (sn_mB 75) (sn_mL 75) (sn_mR 75)) := rfl
set_option maxRecDepth 100000 in
theorem sn_mw76 : lw_tbl[sn_ic 76]? = some (.code (sn_mY 76) (sn_mB 76) (sn_mL 76) (sn_mR 76)) := rfl
set_option maxRecDepth 100000 in
theorem sn_mw77 : lw_tbl[sn_ic 77]? = some (.code (sn_mY 77) (sn_mB 77) (sn_mL 77) (sn_mR 77)) := rfl
set_option maxRecDepth 100000 in
theorem sn_mw78 : lw_tbl[sn_ic 78]? = some (.code (sn_mY 78) (sn_mB 78) (sn_mL 78) (sn_mR 78)) := rfl
set_option maxRecDepth 100000 in
theorem sn_mw79 : lw_tbl[sn_ic 79]? = some (.code (sn_mY 79) (sn_mB 79) (sn_mL 79) (sn_mR 79)) := rfl
theorem sn_mwall : ∀ y, y < 80 → lw_tbl[sn_ic y]? = some (.code (sn_mY y) (sn_mB y) (sn_mL y) (sn_mR y)) := lt_s (lt_s (lt_s (lt_s (lt_s (lt_s (lt_s (lt_s (lt_s (lt_s (lt_s (lt_s (lt_s (lt_s (lt_s (lt_s (lt_s (lt_s (lt_s (lt_s (lt_s (lt_s (lt_s (lt_s (lt_s (lt_s (lt_s (lt_s (lt_s (lt_s (lt_s (lt_s (lt_s (lt_s (lt_s (lt_s (lt_s (lt_s (lt_s (lt_s (lt_s (lt_s (lt_s (lt_s (lt_s (lt_s (lt_s (lt_s (lt_s (lt_s (lt_s (lt_s (lt_s (lt_s (lt_s (lt_s (lt_s (lt_s (lt_s (lt_s (lt_s (lt_s (lt_s (lt_s (lt_s (lt_s (lt_s (lt_s (lt_s (lt_s (lt_s (lt_s (lt_s (lt_s (lt_s (lt_s (lt_s (lt_s (lt_s (lt_s (lt_0) sn_mw0) sn_mw1) sn_mw2) sn_mw3) sn_mw4) sn_mw5) sn_mw6) sn_mw7) sn_mw8) sn_mw9) sn_mw10) sn_mw11) sn_mw12) sn_mw13) sn_mw14) sn_mw15) sn_mw16) sn_mw17) sn_mw18) sn_mw19) sn_mw20) sn_mw21) sn_mw22) sn_mw23) sn_mw24) sn_mw25) sn_mw26) sn_mw27) sn_mw28) sn_mw29) sn_mw30) sn_mw31) sn_mw32) sn_mw33) sn_mw34) sn_mw35) sn_mw36) sn_mw37) sn_mw38) sn_mw39) sn_mw40) sn_mw41) sn_mw42) sn_mw43) sn_mw44) sn_mw45) sn_mw46) sn_mw47) sn_mw48) sn_mw49) sn_mw50) sn_mw51) sn_mw52) sn_mw53) sn_mw54) sn_mw55) sn_mw56) sn_mw57) sn_mw58) sn_mw59) sn_mw60) sn_mw61) sn_mw62) sn_mw63) sn_mw64) sn_mw65) sn_mw66) sn_mw67) sn_mw68) sn_mw69) sn_mw70) sn_mw71) sn_mw72) sn_mw73) sn_mw74) sn_mw75) sn_mw76) sn_mw77) sn_mw78) sn_mw79
theorem sn_lk_ok : ∀ q ∈ sn_lk, lw_tbl[q.2.2.2.2]? = some (bif Nat.beq q.2.2.2.1 1 then .methodLinkNest (sn_oN q.1) q.2.1 (sn_mY q.2.2.1) "SnapshotRings" else .methodLink (sn_oN q.1) q.2.1 (sn_mY q.2.2.1)) := by decide +kernel
theorem sn_fl_ok : ∀ q ∈ sn_fl, lw_tbl[q.2.2.2.2]? = some (.fieldLink (sn_oN q.1) q.2.1 (sn_cT q.2.2.1).1 ((sn_cT q.2.2.1).2.1 q.2.2.2.1).2.1 ((sn_cT q.2.2.1).2.1 q.2.2.2.1).2.2.1) := by decide +kernel
theorem sn_in1_a : ∀ y, y < 80 → lw_tbl[sn_in y]? = some (.initialized (sn_mY y).cls) := by decide +kernel
theorem sn_in2_a : ∀ y, y < 80 → (sn_mY y).cls = sn_oN (sn_mO y) := by decide +kernel
theorem sn_in3_a : ∀ y, y < 80 → ((sn_mY y).cls ≠ "java/lang/invoke/MethodHandle" ∧ (sn_mY y).cls ≠ "java/lang/invoke/VarHandle") := by decide +kernel
theorem sn_in4_a : ∀ y, y < 80 → Jvm.plainName (sn_mY y).cls = true := by decide +kernel
theorem sn_in5_a : ∀ y, y < 80 → (parseMethodDescriptor (sn_mY y).desc).map (fun d => d.parameters.length) = some (bif sn_st y then sn_NA y else sn_NA y - 1) := by decide +kernel
theorem sn_in6_a : ∀ y, y < 80 → (sn_st y = false → 1 ≤ sn_NA y) := by decide +kernel
theorem sn_in7_a : ∀ y, y < 80 → ((sn_mY y).name = "<init>" → sn_mR y = none) := by decide +kernel
theorem sn_ii_a : ∀ y, y < 80 → lw_tbl[sn_ii y]? = some (bif sn_st y then .static (sn_mY y) else .instanceMethod (sn_mY y)) := by decide +kernel
theorem sn_is_a : ∀ y, y < 80 → (sn_st y = false → (sn_mY y).name ≠ "<init>" → lw_tbl[sn_is y]? = some (.selects (sn_mY y).cls (sn_mY y) (sn_mY y))) := by decide +kernel
