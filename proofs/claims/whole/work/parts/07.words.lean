/-! ===== the words behind the tables, one ===== -/
set_option maxRecDepth 100000 in
theorem sn_mw0 : lw_tbl[sn_ic 0]? = some (.code (sn_mY 0) (sn_mB 0) (sn_mL 0) (sn_mR 0)) := rfl
set_option maxRecDepth 100000 in
theorem sn_mw1 : lw_tbl[sn_ic 1]? = some (.code (sn_mY 1) (sn_mB 1) (sn_mL 1) (sn_mR 1)) := rfl
set_option maxRecDepth 100000 in
theorem sn_mw2 : lw_tbl[sn_ic 2]? = some (.code (sn_mY 2) (sn_mB 2) (sn_mL 2) (sn_mR 2)) := rfl
set_option maxRecDepth 100000 in
theorem sn_mw3 : lw_tbl[sn_ic 3]? = some (.code (sn_mY 3) (sn_mB 3) (sn_mL 3) (sn_mR 3)) := rfl
set_option maxRecDepth 100000 in
theorem sn_mw4 : lw_tbl[sn_ic 4]? = some (.code (sn_mY 4) (sn_mB 4) (sn_mL 4) (sn_mR 4)) := rfl
set_option maxRecDepth 100000 in
theorem sn_mw5 : lw_tbl[sn_ic 5]? = some (.code (sn_mY 5) (sn_mB 5) (sn_mL 5) (sn_mR 5)) := rfl
set_option maxRecDepth 100000 in
theorem sn_mw6 : lw_tbl[sn_ic 6]? = some (.code (sn_mY 6) (sn_mB 6) (sn_mL 6) (sn_mR 6)) := rfl
set_option maxRecDepth 100000 in
theorem sn_mw7 : lw_tbl[sn_ic 7]? = some (.code (sn_mY 7) (sn_mB 7) (sn_mL 7) (sn_mR 7)) := rfl
set_option maxRecDepth 100000 in
theorem sn_mw8 : lw_tbl[sn_ic 8]? = some (.code (sn_mY 8) (sn_mB 8) (sn_mL 8) (sn_mR 8)) := rfl
set_option maxRecDepth 100000 in
theorem sn_mw9 : lw_tbl[sn_ic 9]? = some (.code (sn_mY 9) (sn_mB 9) (sn_mL 9) (sn_mR 9)) := rfl
set_option maxRecDepth 100000 in
theorem sn_mw10 : lw_tbl[sn_ic 10]? = some (.code (sn_mY 10) (sn_mB 10) (sn_mL 10) (sn_mR 10)) := rfl
set_option maxRecDepth 100000 in
theorem sn_mw11 : lw_tbl[sn_ic 11]? = some (.code (sn_mY 11) (sn_mB 11) (sn_mL 11) (sn_mR 11)) := rfl
set_option maxRecDepth 100000 in
theorem sn_mw12 : lw_tbl[sn_ic 12]? = some (.code (sn_mY 12) (sn_mB 12) (sn_mL 12) (sn_mR 12)) := rfl
set_option maxRecDepth 100000 in
theorem sn_mw13 : lw_tbl[sn_ic 13]? = some (.code (sn_mY 13) (sn_mB 13) (sn_mL 13) (sn_mR 13)) := rfl
set_option maxRecDepth 100000 in
theorem sn_mw14 : lw_tbl[sn_ic 14]? = some (.code (sn_mY 14) (sn_mB 14) (sn_mL 14) (sn_mR 14)) := rfl
set_option maxRecDepth 100000 in
theorem sn_mw15 : lw_tbl[sn_ic 15]? = some (.code (sn_mY 15) (sn_mB 15) (sn_mL 15) (sn_mR 15)) := rfl
set_option maxRecDepth 100000 in
theorem sn_mw16 : lw_tbl[sn_ic 16]? = some (.code (sn_mY 16) (sn_mB 16) (sn_mL 16) (sn_mR 16)) := rfl
set_option maxRecDepth 100000 in
theorem sn_mw17 : lw_tbl[sn_ic 17]? = some (.code (sn_mY 17) (sn_mB 17) (sn_mL 17) (sn_mR 17)) := rfl
set_option maxRecDepth 100000 in
theorem sn_mw18 : lw_tbl[sn_ic 18]? = some (.code (sn_mY 18) (sn_mB 18) (sn_mL 18) (sn_mR 18)) := rfl
set_option maxRecDepth 100000 in
theorem sn_mw19 : lw_tbl[sn_ic 19]? = some (.code (sn_mY 19) (sn_mB 19) (sn_mL 19) (sn_mR 19)) := rfl
set_option maxRecDepth 100000 in
theorem sn_mw20 : lw_tbl[sn_ic 20]? = some (.code (sn_mY 20) (sn_mB 20) (sn_mL 20) (sn_mR 20)) := rfl
set_option maxRecDepth 100000 in
theorem sn_mw21 : lw_tbl[sn_ic 21]? = some (.code (sn_mY 21) (sn_mB 21) (sn_mL 21) (sn_mR 21)) := rfl
set_option maxRecDepth 100000 in
theorem sn_mw22 : lw_tbl[sn_ic 22]? = some (.code (sn_mY 22) (sn_mB 22) (sn_mL 22) (sn_mR 22)) := rfl
set_option maxRecDepth 100000 in
theorem sn_mw23 : lw_tbl[sn_ic 23]? = some (.code (sn_mY 23) (sn_mB 23) (sn_mL 23) (sn_mR 23)) := rfl
set_option maxRecDepth 100000 in
theorem sn_mw24 : lw_tbl[sn_ic 24]? = some (.code (sn_mY 24) (sn_mB 24) (sn_mL 24) (sn_mR 24)) := rfl
set_option maxRecDepth 100000 in
theorem sn_mw25 : lw_tbl[sn_ic 25]? = some (.code (sn_mY 25) (sn_mB 25) (sn_mL 25) (sn_mR 25)) := rfl
set_option maxRecDepth 100000 in
theorem sn_mw26 : lw_tbl[sn_ic 26]? = some (.code (sn_mY 26) (sn_mB 26) (sn_mL 26) (sn_mR 26)) := rfl
set_option maxRecDepth 100000 in
theorem sn_mw27 : lw_tbl[sn_ic 27]? = some (.code (sn_mY 27) (sn_mB 27) (sn_mL 27) (sn_mR 27)) := rfl
set_option maxRecDepth 100000 in
theorem sn_mw28 : lw_tbl[sn_ic 28]? = some (.code (sn_mY 28) (sn_mB 28) (sn_mL 28) (sn_mR 28)) := rfl
set_option maxRecDepth 100000 in
theorem sn_mw29 : lw_tbl[sn_ic 29]? = some (.code (sn_mY 29) (sn_mB 29) (sn_mL 29) (sn_mR 29)) := rfl
set_option maxRecDepth 100000 in
theorem sn_mw30 : lw_tbl[sn_ic 30]? = some (.code (sn_mY 30) (sn_mB 30) (sn_mL 30) (sn_mR 30)) := rfl
set_option maxRecDepth 100000 in
theorem sn_mw31 : lw_tbl[sn_ic 31]? = some (.code (sn_mY 31) (sn_mB 31) (sn_mL 31) (sn_mR 31)) := rfl
set_option maxRecDepth 100000 in
theorem sn_mw32 : lw_tbl[sn_ic 32]? = some (.code (sn_mY 32) (sn_mB 32) (sn_mL 32) (sn_mR 32)) := rfl
set_option maxRecDepth 100000 in
theorem sn_mw33 : lw_tbl[sn_ic 33]? = some (.code (sn_mY 33) (sn_mB 33) (sn_mL 33) (sn_mR 33)) := rfl
set_option maxRecDepth 100000 in
theorem sn_mw34 : lw_tbl[sn_ic 34]? = some (.code (sn_mY 34) (sn_mB 34) (sn_mL 34) (sn_mR 34)) := rfl
set_option maxRecDepth 100000 in
theorem sn_mw35 : lw_tbl[sn_ic 35]? = some (.code (sn_mY 35) (sn_mB 35) (sn_mL 35) (sn_mR 35)) := rfl
set_option maxRecDepth 100000 in
theorem sn_mw36 : lw_tbl[sn_ic 36]? = some (.code (sn_mY 36) (sn_mB 36) (sn_mL 36) (sn_mR 36)) := rfl
set_option maxRecDepth 100000 in
theorem sn_mw37 : lw_tbl[sn_ic 37]? = some (.code (sn_mY 37) (sn_mB 37) (sn_mL 37) (sn_mR 37)) := rfl
set_option maxRecDepth 100000 in
theorem sn_mw38 : lw_tbl[sn_ic 38]? = some (.code (sn_mY 38) (sn_mB 38) (sn_mL 38) (sn_mR 38)) := rfl
set_option maxRecDepth 100000 in
theorem sn_mw39 : lw_tbl[sn_ic 39]? = some (.code (sn_mY 39) (sn_mB 39) (sn_mL 39) (sn_mR 39)) := rfl
set_option maxRecDepth 100000 in
theorem sn_mw40 : lw_tbl[sn_ic 40]? = some (.code (sn_mY 40) (sn_mB 40) (sn_mL 40) (sn_mR 40)) := rfl
set_option maxRecDepth 100000 in
theorem sn_mw41 : lw_tbl[sn_ic 41]? = some (.code (sn_mY 41) (sn_mB 41) (sn_mL 41) (sn_mR 41)) := rfl
set_option maxRecDepth 100000 in
theorem sn_mw42 : lw_tbl[sn_ic 42]? = some (.code (sn_mY 42) (sn_mB 42) (sn_mL 42) (sn_mR 42)) := rfl
set_option maxRecDepth 100000 in
theorem sn_mw43 : lw_tbl[sn_ic 43]? = some (.code (sn_mY 43) (sn_mB 43) (sn_mL 43) (sn_mR 43)) := rfl
set_option maxRecDepth 100000 in
theorem sn_mw44 : lw_tbl[sn_ic 44]? = some (.code (sn_mY 44) (sn_mB 44) (sn_mL 44) (sn_mR 44)) := rfl
set_option maxRecDepth 100000 in
theorem sn_mw45 : lw_tbl[sn_ic 45]? = some (.code (sn_mY 45) (sn_mB 45) (sn_mL 45) (sn_mR 45)) := rfl
set_option maxRecDepth 100000 in
theorem sn_mw46 : lw_tbl[sn_ic 46]? = some (.code (sn_mY 46) (sn_mB 46) (sn_mL 46) (sn_mR 46)) := rfl
set_option maxRecDepth 100000 in
theorem sn_mw47 : lw_tbl[sn_ic 47]? = some (.code (sn_mY 47) (sn_mB 47) (sn_mL 47) (sn_mR 47)) := rfl
set_option maxRecDepth 100000 in
theorem sn_mw48 : lw_tbl[sn_ic 48]? = some (.code (sn_mY 48) (sn_mB 48) (sn_mL 48) (sn_mR 48)) := rfl
set_option maxRecDepth 100000 in
theorem sn_mw49 : lw_tbl[sn_ic 49]? = some (.code (sn_mY 49) (sn_mB 49) (sn_mL 49) (sn_mR 49)) := rfl
set_option maxRecDepth 100000 in
theorem sn_mw50 : lw_tbl[sn_ic 50]? = some (.code (sn_mY 50) (sn_mB 50) (sn_mL 50) (sn_mR 50)) := rfl
set_option maxRecDepth 100000 in
theorem sn_mw51 : lw_tbl[sn_ic 51]? = some (.code (sn_mY 51) (sn_mB 51) (sn_mL 51) (sn_mR 51)) := rfl
set_option maxRecDepth 100000 in
theorem sn_mw52 : lw_tbl[sn_ic 52]? = some (.code (sn_mY 52) (sn_mB 52) (sn_mL 52) (sn_mR 52)) := rfl
set_option maxRecDepth 100000 in
theorem sn_mw53 : lw_tbl[sn_ic 53]? = some (.code (sn_mY 53) (sn_mB 53) (sn_mL 53) (sn_mR 53)) := rfl
set_option maxRecDepth 100000 in
theorem sn_mw54 : lw_tbl[sn_ic 54]? = some (.code (sn_mY 54) (sn_mB 54) (sn_mL 54) (sn_mR 54)) := rfl
set_option maxRecDepth 100000 in
theorem sn_mw55 : lw_tbl[sn_ic 55]? = some (.code (sn_mY 55) (sn_mB 55) (sn_mL 55) (sn_mR 55)) := rfl
set_option maxRecDepth 100000 in
theorem sn_mw56 : lw_tbl[sn_ic 56]? = some (.code (sn_mY 56) (sn_mB 56) (sn_mL 56) (sn_mR 56)) := rfl
set_option maxRecDepth 100000 in
theorem sn_mw57 : lw_tbl[sn_ic 57]? = some (.code (sn_mY 57) (sn_mB 57) (sn_mL 57) (sn_mR 57)) := rfl
set_option maxRecDepth 100000 in
theorem sn_mw58 : lw_tbl[sn_ic 58]? = some (.code (sn_mY 58) (sn_mB 58) (sn_mL 58) (sn_mR 58)) := rfl
set_option maxRecDepth 100000 in
theorem sn_mw59 : lw_tbl[sn_ic 59]? = some (.code (sn_mY 59) (sn_mB 59) (sn_mL 59) (sn_mR 59)) := rfl
set_option maxRecDepth 100000 in
theorem sn_mw60 : lw_tbl[sn_ic 60]? = some (.code (sn_mY 60) (sn_mB 60) (sn_mL 60) (sn_mR 60)) := rfl
set_option maxRecDepth 100000 in
theorem sn_mw61 : lw_tbl[sn_ic 61]? = some (.code (sn_mY 61) (sn_mB 61) (sn_mL 61) (sn_mR 61)) := rfl
set_option maxRecDepth 100000 in
theorem sn_mw62 : lw_tbl[sn_ic 62]? = some (.code (sn_mY 62) (sn_mB 62) (sn_mL 62) (sn_mR 62)) := rfl
set_option maxRecDepth 100000 in
theorem sn_mw63 : lw_tbl[sn_ic 63]? = some (.code (sn_mY 63) (sn_mB 63) (sn_mL 63) (sn_mR 63)) := rfl
set_option maxRecDepth 100000 in
theorem sn_mw64 : lw_tbl[sn_ic 64]? = some (.code (sn_mY 64) (sn_mB 64) (sn_mL 64) (sn_mR 64)) := rfl
set_option maxRecDepth 100000 in
theorem sn_mw65 : lw_tbl[sn_ic 65]? = some (.code (sn_mY 65) (sn_mB 65) (sn_mL 65) (sn_mR 65)) := rfl
set_option maxRecDepth 100000 in
theorem sn_mw66 : lw_tbl[sn_ic 66]? = some (.code (sn_mY 66) (sn_mB 66) (sn_mL 66) (sn_mR 66)) := rfl
set_option maxRecDepth 100000 in
theorem sn_mw67 : lw_tbl[sn_ic 67]? = some (.code (sn_mY 67) (sn_mB 67) (sn_mL 67) (sn_mR 67)) := rfl
set_option maxRecDepth 100000 in
theorem sn_mw68 : lw_tbl[sn_ic 68]? = some (.code (sn_mY 68) (sn_mB 68) (sn_mL 68) (sn_mR 68)) := rfl
set_option maxRecDepth 100000 in
theorem sn_mw69 : lw_tbl[sn_ic 69]? = some (.code (sn_mY 69) (sn_mB 69) (sn_mL 69) (sn_mR 69)) := rfl
set_option maxRecDepth 100000 in
theorem sn_mw70 : lw_tbl[sn_ic 70]? = some (.code (sn_mY 70) (sn_mB 70) (sn_mL 70) (sn_mR 70)) := rfl
set_option maxRecDepth 100000 in
theorem sn_mw71 : lw_tbl[sn_ic 71]? = some (.code (sn_mY 71) (sn_mB 71) (sn_mL 71) (sn_mR 71)) := rfl
set_option maxRecDepth 100000 in
theorem sn_mw72 : lw_tbl[sn_ic 72]? = some (.code (sn_mY 72) (sn_mB 72) (sn_mL 72) (sn_mR 72)) := rfl
set_option maxRecDepth 100000 in
theorem sn_mw73 : lw_tbl[sn_ic 73]? = some (.code (sn_mY 73) (sn_mB 73) (sn_mL 73) (sn_mR 73)) := rfl
set_option maxRecDepth 100000 in
theorem sn_mw74 : lw_tbl[sn_ic 74]? = some (.code (sn_mY 74) (sn_mB 74) (sn_mL 74) (sn_mR 74)) := rfl
set_option maxRecDepth 100000 in
theorem sn_mw75 : lw_tbl[sn_ic 75]? = some (.code (sn_mY 75) (sn_mB 75) (sn_mL 75) (sn_mR 75)) := rfl
set_option maxRecDepth 100000 in
theorem sn_mw76 : lw_tbl[sn_ic 76]? = some (.code (sn_mY 76) (sn_mB 76) (sn_mL 76) (sn_mR 76)) := rfl
set_option maxRecDepth 100000 in
theorem sn_mw77 : lw_tbl[sn_ic 77]? = some (.code (sn_mY 77) (sn_mB 77) (sn_mL 77) (sn_mR 77)) := rfl
set_option maxRecDepth 100000 in
theorem sn_mw78 : lw_tbl[sn_ic 78]? = some (.code (sn_mY 78) (sn_mB 78) (sn_mL 78) (sn_mR 78)) := rfl
set_option maxRecDepth 100000 in
theorem sn_mw79 : lw_tbl[sn_ic 79]? = some (.code (sn_mY 79) (sn_mB 79) (sn_mL 79) (sn_mR 79)) := rfl
set_option maxRecDepth 100000 in
theorem sn_mw80 : lw_tbl[sn_ic 80]? = some (.code (sn_mY 80) (sn_mB 80) (sn_mL 80) (sn_mR 80)) := rfl
set_option maxRecDepth 100000 in
theorem sn_mw81 : lw_tbl[sn_ic 81]? = some (.code (sn_mY 81) (sn_mB 81) (sn_mL 81) (sn_mR 81)) := rfl
set_option maxRecDepth 100000 in
theorem sn_mw82 : lw_tbl[sn_ic 82]? = some (.code (sn_mY 82) (sn_mB 82) (sn_mL 82) (sn_mR 82)) := rfl
set_option maxRecDepth 100000 in
theorem sn_mw83 : lw_tbl[sn_ic 83]? = some (.code (sn_mY 83) (sn_mB 83) (sn_mL 83) (sn_mR 83)) := rfl
set_option maxRecDepth 100000 in
theorem sn_mw84 : lw_tbl[sn_ic 84]? = some (.code (sn_mY 84) (sn_mB 84) (sn_mL 84) (sn_mR 84)) := rfl
set_option maxRecDepth 100000 in
theorem sn_mw85 : lw_tbl[sn_ic 85]? = some (.code (sn_mY 85) (sn_mB 85) (sn_mL 85) (sn_mR 85)) := rfl
set_option maxRecDepth 100000 in
theorem sn_mw86 : lw_tbl[sn_ic 86]? = some (.code (sn_mY 86) (sn_mB 86) (sn_mL 86) (sn_mR 86)) := rfl
set_option maxRecDepth 100000 in
theorem sn_mw87 : lw_tbl[sn_ic 87]? = some (.code (sn_mY 87) (sn_mB 87) (sn_mL 87) (sn_mR 87)) := rfl
set_option maxRecDepth 100000 in
theorem sn_mw88 : lw_tbl[sn_ic 88]? = some (.code (sn_mY 88) (sn_mB 88) (sn_mL 88) (sn_mR 88)) := rfl
set_option maxRecDepth 100000 in
theorem sn_mw89 : lw_tbl[sn_ic 89]? = some (.code (sn_mY 89) (sn_mB 89) (sn_mL 89) (sn_mR 89)) := rfl
set_option maxRecDepth 100000 in
theorem sn_mw90 : lw_tbl[sn_ic 90]? = some (.code (sn_mY 90) (sn_mB 90) (sn_mL 90) (sn_mR 90)) := rfl
set_option maxRecDepth 100000 in
theorem sn_mw91 : lw_tbl[sn_ic 91]? = some (.code (sn_mY 91) (sn_mB 91) (sn_mL 91) (sn_mR 91)) := rfl
set_option maxRecDepth 100000 in
theorem sn_mw92 : lw_tbl[sn_ic 92]? = some (.code (sn_mY 92) (sn_mB 92) (sn_mL 92) (sn_mR 92)) := rfl
set_option maxRecDepth 100000 in
theorem sn_mw93 : lw_tbl[sn_ic 93]? = some (.code (sn_mY 93) (sn_mB 93) (sn_mL 93) (sn_mR 93)) := rfl
set_option maxRecDepth 100000 in
theorem sn_mw94 : lw_tbl[sn_ic 94]? = some (.code (sn_mY 94) (sn_mB 94) (sn_mL 94) (sn_mR 94)) := rfl
set_option maxRecDepth 100000 in
theorem sn_mw95 : lw_tbl[sn_ic 95]? = some (.code (sn_mY 95) (sn_mB 95) (sn_mL 95) (sn_mR 95)) := rfl
set_option maxRecDepth 100000 in
theorem sn_mw96 : lw_tbl[sn_ic 96]? = some (.code (sn_mY 96) (sn_mB 96) (sn_mL 96) (sn_mR 96)) := rfl
set_option maxRecDepth 100000 in
theorem sn_mw97 : lw_tbl[sn_ic 97]? = some (.code (sn_mY 97) (sn_mB 97) (sn_mL 97) (sn_mR 97)) := rfl
set_option maxRecDepth 100000 in
theorem sn_mw98 : lw_tbl[sn_ic 98]? = some (.code (sn_mY 98) (sn_mB 98) (sn_mL 98) (sn_mR 98)) := rfl
set_option maxRecDepth 100000 in
theorem sn_mw99 : lw_tbl[sn_ic 99]? = some (.code (sn_mY 99) (sn_mB 99) (sn_mL 99) (sn_mR 99)) := rfl
set_option maxRecDepth 100000 in
theorem sn_mw100 : lw_tbl[sn_ic 100]? = some (.code (sn_mY 100) (sn_mB 100) (sn_mL 100) (sn_mR 100)) := rfl
set_option maxRecDepth 100000 in
theorem sn_mw101 : lw_tbl[sn_ic 101]? = some (.code (sn_mY 101) (sn_mB 101) (sn_mL 101) (sn_mR 101)) := rfl
set_option maxRecDepth 100000 in
theorem sn_mw102 : lw_tbl[sn_ic 102]? = some (.code (sn_mY 102) (sn_mB 102) (sn_mL 102) (sn_mR 102)) := rfl
set_option maxRecDepth 100000 in
theorem sn_mw103 : lw_tbl[sn_ic 103]? = some (.code (sn_mY 103) (sn_mB 103) (sn_mL 103) (sn_mR 103)) := rfl
set_option maxRecDepth 100000 in
theorem sn_mw104 : lw_tbl[sn_ic 104]? = some (.code (sn_mY 104) (sn_mB 104) (sn_mL 104) (sn_mR 104)) := rfl
set_option maxRecDepth 100000 in
theorem sn_mw105 : lw_tbl[sn_ic 105]? = some (.code (sn_mY 105) (sn_mB 105) (sn_mL 105) (sn_mR 105)) := rfl
set_option maxRecDepth 100000 in
theorem sn_mw106 : lw_tbl[sn_ic 106]? = some (.code (sn_mY 106) (sn_mB 106) (sn_mL 106) (sn_mR 106)) := rfl
set_option maxRecDepth 100000 in
theorem sn_mw107 : lw_tbl[sn_ic 107]? = some (.code (sn_mY 107) (sn_mB 107) (sn_mL 107) (sn_mR 107)) := rfl
set_option maxRecDepth 100000 in
theorem sn_mw108 : lw_tbl[sn_ic 108]? = some (.code (sn_mY 108) (sn_mB 108) (sn_mL 108) (sn_mR 108)) := rfl
set_option maxRecDepth 100000 in
theorem sn_mw109 : lw_tbl[sn_ic 109]? = some (.code (sn_mY 109) (sn_mB 109) (sn_mL 109) (sn_mR 109)) := rfl
set_option maxRecDepth 100000 in
theorem sn_mw110 : lw_tbl[sn_ic 110]? = some (.code (sn_mY 110) (sn_mB 110) (sn_mL 110) (sn_mR 110)) := rfl
set_option maxRecDepth 100000 in
theorem sn_mw111 : lw_tbl[sn_ic 111]? = some (.code (sn_mY 111) (sn_mB 111) (sn_mL 111) (sn_mR 111)) := rfl
set_option maxRecDepth 100000 in
theorem sn_mw112 : lw_tbl[sn_ic 112]? = some (.code (sn_mY 112) (sn_mB 112) (sn_mL 112) (sn_mR 112)) := rfl
set_option maxRecDepth 100000 in
theorem sn_mw113 : lw_tbl[sn_ic 113]? = some (.code (sn_mY 113) (sn_mB 113) (sn_mL 113) (sn_mR 113)) := rfl
set_option maxRecDepth 100000 in
theorem sn_mw114 : lw_tbl[sn_ic 114]? = some (.code (sn_mY 114) (sn_mB 114) (sn_mL 114) (sn_mR 114)) := rfl
set_option maxRecDepth 100000 in
theorem sn_mw115 : lw_tbl[sn_ic 115]? = some (.code (sn_mY 115) (sn_mB 115) (sn_mL 115) (sn_mR 115)) := rfl
set_option maxRecDepth 100000 in
theorem sn_mw116 : lw_tbl[sn_ic 116]? = some (.code (sn_mY 116) (sn_mB 116) (sn_mL 116) (sn_mR 116)) := rfl
set_option maxRecDepth 100000 in
theorem sn_mw117 : lw_tbl[sn_ic 117]? = some (.code (sn_mY 117) (sn_mB 117) (sn_mL 117) (sn_mR 117)) := rfl
set_option maxRecDepth 100000 in
theorem sn_mw118 : lw_tbl[sn_ic 118]? = some (.code (sn_mY 118) (sn_mB 118) (sn_mL 118) (sn_mR 118)) := rfl
set_option maxRecDepth 100000 in
theorem sn_mw119 : lw_tbl[sn_ic 119]? = some (.code (sn_mY 119) (sn_mB 119) (sn_mL 119) (sn_mR 119)) := rfl
set_option maxRecDepth 100000 in
theorem sn_mw120 : lw_tbl[sn_ic 120]? = some (.code (sn_mY 120) (sn_mB 120) (sn_mL 120) (sn_mR 120)) := rfl
set_option maxRecDepth 100000 in
theorem sn_mw121 : lw_tbl[sn_ic 121]? = some (.code (sn_mY 121) (sn_mB 121) (sn_mL 121) (sn_mR 121)) := rfl
set_option maxRecDepth 100000 in
theorem sn_mw122 : lw_tbl[sn_ic 122]? = some (.code (sn_mY 122) (sn_mB 122) (sn_mL 122) (sn_mR 122)) := rfl
set_option maxRecDepth 100000 in
theorem sn_mw123 : lw_tbl[sn_ic 123]? = some (.code (sn_mY 123) (sn_mB 123) (sn_mL 123) (sn_mR 123)) := rfl
set_option maxRecDepth 100000 in
theorem sn_mw124 : lw_tbl[sn_ic 124]? = some (.code (sn_mY 124) (sn_mB 124) (sn_mL 124) (sn_mR 124)) := rfl
set_option maxRecDepth 100000 in
theorem sn_mw125 : lw_tbl[sn_ic 125]? = some (.code (sn_mY 125) (sn_mB 125) (sn_mL 125) (sn_mR 125)) := rfl
set_option maxRecDepth 100000 in
theorem sn_mw126 : lw_tbl[sn_ic 126]? = some (.code (sn_mY 126) (sn_mB 126) (sn_mL 126) (sn_mR 126)) := rfl
set_option maxRecDepth 100000 in
theorem sn_mw127 : lw_tbl[sn_ic 127]? = some (.code (sn_mY 127) (sn_mB 127) (sn_mL 127) (sn_mR 127)) := rfl
set_option maxRecDepth 100000 in
theorem sn_mw128 : lw_tbl[sn_ic 128]? = some (.code (sn_mY 128) (sn_mB 128) (sn_mL 128) (sn_mR 128)) := rfl
set_option maxRecDepth 100000 in
theorem sn_mw129 : lw_tbl[sn_ic 129]? = some (.code (sn_mY 129) (sn_mB 129) (sn_mL 129) (sn_mR 129)) := rfl
set_option maxRecDepth 100000 in
theorem sn_mw130 : lw_tbl[sn_ic 130]? = some (.code (sn_mY 130) (sn_mB 130) (sn_mL 130) (sn_mR 130)) := rfl
set_option maxRecDepth 100000 in
theorem sn_mw131 : lw_tbl[sn_ic 131]? = some (.code (sn_mY 131) (sn_mB 131) (sn_mL 131) (sn_mR 131)) := rfl
set_option maxRecDepth 100000 in
theorem sn_mw132 : lw_tbl[sn_ic 132]? = some (.code (sn_mY 132) (sn_mB 132) (sn_mL 132) (sn_mR 132)) := rfl
set_option maxRecDepth 100000 in
theorem sn_mw133 : lw_tbl[sn_ic 133]? = some (.code (sn_mY 133) (sn_mB 133) (sn_mL 133) (sn_mR 133)) := rfl
set_option maxRecDepth 100000 in
theorem sn_mw134 : lw_tbl[sn_ic 134]? = some (.code (sn_mY 134) (sn_mB 134) (sn_mL 134) (sn_mR 134)) := rfl
set_option maxRecDepth 100000 in
theorem sn_mw135 : lw_tbl[sn_ic 135]? = some (.code (sn_mY 135) (sn_mB 135) (sn_mL 135) (sn_mR 135)) := rfl
set_option maxRecDepth 100000 in
theorem sn_mw136 : lw_tbl[sn_ic 136]? = some (.code (sn_mY 136) (sn_mB 136) (sn_mL 136) (sn_mR 136)) := rfl
set_option maxRecDepth 100000 in
theorem sn_mw137 : lw_tbl[sn_ic 137]? = some (.code (sn_mY 137) (sn_mB 137) (sn_mL 137) (sn_mR 137)) := rfl
set_option maxRecDepth 100000 in
theorem sn_mw138 : lw_tbl[sn_ic 138]? = some (.code (sn_mY 138) (sn_mB 138) (sn_mL 138) (sn_mR 138)) := rfl
set_option maxRecDepth 100000 in
theorem sn_mw139 : lw_tbl[sn_ic 139]? = some (.code (sn_mY 139) (sn_mB 139) (sn_mL 139) (sn_mR 139)) := rfl
set_option maxRecDepth 100000 in
theorem sn_mw140 : lw_tbl[sn_ic 140]? = some (.code (sn_mY 140) (sn_mB 140) (sn_mL 140) (sn_mR 140)) := rfl
set_option maxRecDepth 100000 in
theorem sn_mw141 : lw_tbl[sn_ic 141]? = some (.code (sn_mY 141) (sn_mB 141) (sn_mL 141) (sn_mR 141)) := rfl
set_option maxRecDepth 100000 in
theorem sn_mw142 : lw_tbl[sn_ic 142]? = some (.code (sn_mY 142) (sn_mB 142) (sn_mL 142) (sn_mR 142)) := rfl
set_option maxRecDepth 100000 in
theorem sn_mw143 : lw_tbl[sn_ic 143]? = some (.code (sn_mY 143) (sn_mB 143) (sn_mL 143) (sn_mR 143)) := rfl
set_option maxRecDepth 100000 in
theorem sn_mw144 : lw_tbl[sn_ic 144]? = some (.code (sn_mY 144) (sn_mB 144) (sn_mL 144) (sn_mR 144)) := rfl
set_option maxRecDepth 100000 in
theorem sn_mw145 : lw_tbl[sn_ic 145]? = some (.code (sn_mY 145) (sn_mB 145) (sn_mL 145) (sn_mR 145)) := rfl
set_option maxRecDepth 100000 in
theorem sn_mw146 : lw_tbl[sn_ic 146]? = some (.code (sn_mY 146) (sn_mB 146) (sn_mL 146) (sn_mR 146)) := rfl
set_option maxRecDepth 100000 in
theorem sn_mw147 : lw_tbl[sn_ic 147]? = some (.code (sn_mY 147) (sn_mB 147) (sn_mL 147) (sn_mR 147)) := rfl
set_option maxRecDepth 100000 in
theorem sn_mw148 : lw_tbl[sn_ic 148]? = some (.code (sn_mY 148) (sn_mB 148) (sn_mL 148) (sn_mR 148)) := rfl
set_option maxRecDepth 100000 in
theorem sn_mw149 : lw_tbl[sn_ic 149]? = some (.code (sn_mY 149) (sn_mB 149) (sn_mL 149) (sn_mR 149)) := rfl
set_option maxRecDepth 100000 in
theorem sn_mw150 : lw_tbl[sn_ic 150]? = some (.code (sn_mY 150) (sn_mB 150) (sn_mL 150) (sn_mR 150)) := rfl
set_option maxRecDepth 100000 in
theorem sn_mw151 : lw_tbl[sn_ic 151]? = some (.code (sn_mY 151) (sn_mB 151) (sn_mL 151) (sn_mR 151)) := rfl
set_option maxRecDepth 100000 in
theorem sn_mw152 : lw_tbl[sn_ic 152]? = some (.code (sn_mY 152) (sn_mB 152) (sn_mL 152) (sn_mR 152)) := rfl
set_option maxRecDepth 100000 in
theorem sn_mw153 : lw_tbl[sn_ic 153]? = some (.code (sn_mY 153) (sn_mB 153) (sn_mL 153) (sn_mR 153)) := rfl
set_option maxRecDepth 100000 in
theorem sn_mw154 : lw_tbl[sn_ic 154]? = some (.code (sn_mY 154) (sn_mB 154) (sn_mL 154) (sn_mR 154)) := rfl
set_option maxRecDepth 100000 in
theorem sn_mw155 : lw_tbl[sn_ic 155]? = some (.code (sn_mY 155) (sn_mB 155) (sn_mL 155) (sn_mR 155)) := rfl
set_option maxRecDepth 100000 in
theorem sn_mw156 : lw_tbl[sn_ic 156]? = some (.code (sn_mY 156) (sn_mB 156) (sn_mL 156) (sn_mR 156)) := rfl
set_option maxRecDepth 100000 in
theorem sn_mw157 : lw_tbl[sn_ic 157]? = some (.code (sn_mY 157) (sn_mB 157) (sn_mL 157) (sn_mR 157)) := rfl
set_option maxRecDepth 100000 in
theorem sn_mw158 : lw_tbl[sn_ic 158]? = some (.code (sn_mY 158) (sn_mB 158) (sn_mL 158) (sn_mR 158)) := rfl
set_option maxRecDepth 100000 in
theorem sn_mw159 : lw_tbl[sn_ic 159]? = some (.code (sn_mY 159) (sn_mB 159) (sn_mL 159) (sn_mR 159)) := rfl
set_option maxRecDepth 100000 in
theorem sn_mw160 : lw_tbl[sn_ic 160]? = some (.code (sn_mY 160) (sn_mB 160) (sn_mL 160) (sn_mR 160)) := rfl
set_option maxRecDepth 100000 in
theorem sn_mw161 : lw_tbl[sn_ic 161]? = some (.code (sn_mY 161) (sn_mB 161) (sn_mL 161) (sn_mR 161)) := rfl
set_option maxRecDepth 100000 in
theorem sn_mw162 : lw_tbl[sn_ic 162]? = some (.code (sn_mY 162) (sn_mB 162) (sn_mL 162) (sn_mR 162)) := rfl
set_option maxRecDepth 100000 in
theorem sn_mw163 : lw_tbl[sn_ic 163]? = some (.code (sn_mY 163) (sn_mB 163) (sn_mL 163) (sn_mR 163)) := rfl
set_option maxRecDepth 100000 in
theorem sn_mw164 : lw_tbl[sn_ic 164]? = some (.code (sn_mY 164) (sn_mB 164) (sn_mL 164) (sn_mR 164)) := rfl
set_option maxRecDepth 100000 in
theorem sn_mw165 : lw_tbl[sn_ic 165]? = some (.code (sn_mY 165) (sn_mB 165) (sn_mL 165) (sn_mR 165)) := rfl
set_option maxRecDepth 100000 in
theorem sn_mw166 : lw_tbl[sn_ic 166]? = some (.code (sn_mY 166) (sn_mB 166) (sn_mL 166) (sn_mR 166)) := rfl
set_option maxRecDepth 100000 in
theorem sn_mw167 : lw_tbl[sn_ic 167]? = some (.code (sn_mY 167) (sn_mB 167) (sn_mL 167) (sn_mR 167)) := rfl
set_option maxRecDepth 100000 in
theorem sn_mw168 : lw_tbl[sn_ic 168]? = some (.code (sn_mY 168) (sn_mB 168) (sn_mL 168) (sn_mR 168)) := rfl
set_option maxRecDepth 100000 in
theorem sn_mw169 : lw_tbl[sn_ic 169]? = some (.code (sn_mY 169) (sn_mB 169) (sn_mL 169) (sn_mR 169)) := rfl
set_option maxRecDepth 100000 in
theorem sn_mw170 : lw_tbl[sn_ic 170]? = some (.code (sn_mY 170) (sn_mB 170) (sn_mL 170) (sn_mR 170)) := rfl
set_option maxRecDepth 100000 in
theorem sn_mw171 : lw_tbl[sn_ic 171]? = some (.code (sn_mY 171) (sn_mB 171) (sn_mL 171) (sn_mR 171)) := rfl
set_option maxRecDepth 100000 in
theorem sn_mw172 : lw_tbl[sn_ic 172]? = some (.code (sn_mY 172) (sn_mB 172) (sn_mL 172) (sn_mR 172)) := rfl
set_option maxRecDepth 100000 in
theorem sn_mw173 : lw_tbl[sn_ic 173]? = some (.code (sn_mY 173) (sn_mB 173) (sn_mL 173) (sn_mR 173)) := rfl
theorem sn_mwall : ∀ y, y < 174 → lw_tbl[sn_ic y]? = some (.code (sn_mY y) (sn_mB y) (sn_mL y) (sn_mR y)) := lt_s (lt_s (lt_s (lt_s (lt_s (lt_s (lt_s (lt_s (lt_s (lt_s (lt_s (lt_s (lt_s (lt_s (lt_s (lt_s (lt_s (lt_s (lt_s (lt_s (lt_s (lt_s (lt_s (lt_s (lt_s (lt_s (lt_s (lt_s (lt_s (lt_s (lt_s (lt_s (lt_s (lt_s (lt_s (lt_s (lt_s (lt_s (lt_s (lt_s (lt_s (lt_s (lt_s (lt_s (lt_s (lt_s (lt_s (lt_s (lt_s (lt_s (lt_s (lt_s (lt_s (lt_s (lt_s (lt_s (lt_s (lt_s (lt_s (lt_s (lt_s (lt_s (lt_s (lt_s (lt_s (lt_s (lt_s (lt_s (lt_s (lt_s (lt_s (lt_s (lt_s (lt_s (lt_s (lt_s (lt_s (lt_s (lt_s (lt_s (lt_s (lt_s (lt_s (lt_s (lt_s (lt_s (lt_s (lt_s (lt_s (lt_s (lt_s (lt_s (lt_s (lt_s (lt_s (lt_s (lt_s (lt_s (lt_s (lt_s (lt_s (lt_s (lt_s (lt_s (lt_s (lt_s (lt_s (lt_s (lt_s (lt_s (lt_s (lt_s (lt_s (lt_s (lt_s (lt_s (lt_s (lt_s (lt_s (lt_s (lt_s (lt_s (lt_s (lt_s (lt_s (lt_s (lt_s (lt_s (lt_s (lt_s (lt_s (lt_s (lt_s (lt_s (lt_s (lt_s (lt_s (lt_s (lt_s (lt_s (lt_s (lt_s (lt_s (lt_s (lt_s (lt_s (lt_s (lt_s (lt_s (lt_s (lt_s (lt_s (lt_s (lt_s (lt_s (lt_s (lt_s (lt_s (lt_s (lt_s (lt_s (lt_s (lt_s (lt_s (lt_s (lt_s (lt_s (lt_s (lt_s (lt_s (lt_s (lt_s (lt_s (lt_s (lt_0) sn_mw0) sn_mw1) sn_mw2) sn_mw3) sn_mw4) sn_mw5) sn_mw6) sn_mw7) sn_mw8) sn_mw9) sn_mw10) sn_mw11) sn_mw12) sn_mw13) sn_mw14) sn_mw15) sn_mw16) sn_mw17) sn_mw18) sn_mw19) sn_mw20) sn_mw21) sn_mw22) sn_mw23) sn_mw24) sn_mw25) sn_mw26) sn_mw27) sn_mw28) sn_mw29) sn_mw30) sn_mw31) sn_mw32) sn_mw33) sn_mw34) sn_mw35) sn_mw36) sn_mw37) sn_mw38) sn_mw39) sn_mw40) sn_mw41) sn_mw42) sn_mw43) sn_mw44) sn_mw45) sn_mw46) sn_mw47) sn_mw48) sn_mw49) sn_mw50) sn_mw51) sn_mw52) sn_mw53) sn_mw54) sn_mw55) sn_mw56) sn_mw57) sn_mw58) sn_mw59) sn_mw60) sn_mw61) sn_mw62) sn_mw63) sn_mw64) sn_mw65) sn_mw66) sn_mw67) sn_mw68) sn_mw69) sn_mw70) sn_mw71) sn_mw72) sn_mw73) sn_mw74) sn_mw75) sn_mw76) sn_mw77) sn_mw78) sn_mw79) sn_mw80) sn_mw81) sn_mw82) sn_mw83) sn_mw84) sn_mw85) sn_mw86) sn_mw87) sn_mw88) sn_mw89) sn_mw90) sn_mw91) sn_mw92) sn_mw93) sn_mw94) sn_mw95) sn_mw96) sn_mw97) sn_mw98) sn_mw99) sn_mw100) sn_mw101) sn_mw102) sn_mw103) sn_mw104) sn_mw105) sn_mw106) sn_mw107) sn_mw108) sn_mw109) sn_mw110) sn_mw111) sn_mw112) sn_mw113) sn_mw114) sn_mw115) sn_mw116) sn_mw117) sn_mw118) sn_mw119) sn_mw120) sn_mw121) sn_mw122) sn_mw123) sn_mw124) sn_mw125) sn_mw126) sn_mw127) sn_mw128) sn_mw129) sn_mw130) sn_mw131) sn_mw132) sn_mw133) sn_mw134) sn_mw135) sn_mw136) sn_mw137) sn_mw138) sn_mw139) sn_mw140) sn_mw141) sn_mw142) sn_mw143) sn_mw144) sn_mw145) sn_mw146) sn_mw147) sn_mw148) sn_mw149) sn_mw150) sn_mw151) sn_mw152) sn_mw153) sn_mw154) sn_mw155) sn_mw156) sn_mw157) sn_mw158) sn_mw159) sn_mw160) sn_mw161) sn_mw162) sn_mw163) sn_mw164) sn_mw165) sn_mw166) sn_mw167) sn_mw168) sn_mw169) sn_mw170) sn_mw171) sn_mw172) sn_mw173
theorem sn_lk_ok : ∀ q ∈ sn_lk, lw_tbl[q.2.2.2.2]? = some (bif Nat.beq q.2.2.2.1 1 then .methodLinkNest (sn_oN q.1) q.2.1 (sn_mY q.2.2.1) "SnapshotRings" else .methodLink (sn_oN q.1) q.2.1 (sn_mY q.2.2.1)) := by decide +kernel
theorem sn_fl_ok : ∀ q ∈ sn_fl, lw_tbl[q.2.2.2.2]? = some (.fieldLink (sn_oN q.1) q.2.1 (sn_cT q.2.2.1).1 ((sn_cT q.2.2.1).2.1 q.2.2.2.1).2.1 ((sn_cT q.2.2.1).2.1 q.2.2.2.1).2.2.1) := by decide +kernel
theorem sn_in1_a : ∀ y, y < 174 → lw_tbl[sn_in y]? = some (.initialized (sn_mY y).cls) := by decide +kernel
theorem sn_in2_a : ∀ y, y < 174 → (sn_mY y).cls = sn_oN (sn_mO y) := by decide +kernel
theorem sn_in3_a : ∀ y, y < 174 → ((sn_mY y).cls ≠ "java/lang/invoke/MethodHandle" ∧ (sn_mY y).cls ≠ "java/lang/invoke/VarHandle") := by decide +kernel
theorem sn_in4_a : ∀ y, y < 174 → Jvm.plainName (sn_mY y).cls = true := by decide +kernel
theorem sn_in5_a : ∀ y, y < 174 → (parseMethodDescriptor (sn_mY y).desc).map (fun d => d.parameters.length) = some (bif sn_st y then sn_NA y else sn_NA y - 1) := by decide +kernel
theorem sn_in6_a : ∀ y, y < 174 → (sn_st y = false → 1 ≤ sn_NA y) := by decide +kernel
theorem sn_in7_a : ∀ y, y < 174 → ((sn_mY y).name = "<init>" → sn_mR y = none) := by decide +kernel
theorem sn_ii_a : ∀ y, y < 174 → lw_tbl[sn_ii y]? = some (bif sn_st y then .static (sn_mY y) else .instanceMethod (sn_mY y)) := by decide +kernel
theorem sn_is_a : ∀ y, y < 174 → (sn_st y = false → (sn_mY y).name ≠ "<init>" → lw_tbl[sn_is y]? = some (.selects (sn_mY y).cls (sn_mY y) (sn_mY y))) := by decide +kernel
