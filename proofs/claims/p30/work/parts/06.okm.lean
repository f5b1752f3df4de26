/-! ===== every method passes the checks ===== -/
theorem sn_okm0 : okM 0 = true := by decide +kernel
theorem sn_okm1 : okM 1 = true := by decide +kernel
theorem sn_okm2 : okM 2 = true := by decide +kernel
theorem sn_okm3 : okM 3 = true := by decide +kernel
theorem sn_okm4 : okM 4 = true := by decide +kernel
theorem sn_okm5 : okM 5 = true := by decide +kernel
theorem sn_okm6 : okM 6 = true := by decide +kernel
theorem sn_okm7 : okM 7 = true := by decide +kernel
theorem sn_okm8 : okM 8 = true := by decide +kernel
theorem sn_okm9 : okM 9 = true := by decide +kernel
theorem sn_okm10 : okM 10 = true := by decide +kernel
theorem sn_okm11 : okM 11 = true := by decide +kernel
theorem sn_okm12 : okM 12 = true := by decide +kernel
theorem sn_okm13 : okM 13 = true := by decide +kernel
theorem sn_okm14 : okM 14 = true := by decide +kernel
theorem sn_okm15 : okM 15 = true := by decide +kernel
theorem sn_okm16 : okM 16 = true := by decide +kernel
theorem sn_okm17 : okM 17 = true := by decide +kernel
theorem sn_okm18 : okM 18 = true := by decide +kernel
theorem sn_okm19 : okM 19 = true := by decide +kernel
theorem sn_okm20 : okM 20 = true := by decide +kernel
theorem sn_okm21 : okM 21 = true := by decide +kernel
theorem sn_okm22 : okM 22 = true := by decide +kernel
theorem sn_okm23 : okM 23 = true := by decide +kernel
theorem sn_okm24 : okM 24 = true := by decide +kernel
theorem sn_okm25 : okM 25 = true := by decide +kernel
theorem sn_okm26 : okM 26 = true := by decide +kernel
theorem sn_okm27 : okM 27 = true := by decide +kernel
theorem sn_okm28 : okM 28 = true := by decide +kernel
theorem sn_okm29 : okM 29 = true := by decide +kernel
theorem sn_okm30 : okM 30 = true := by decide +kernel
theorem sn_okm31 : okM 31 = true := by decide +kernel
theorem sn_okm32 : okM 32 = true := by decide +kernel
theorem sn_okm33 : okM 33 = true := by decide +kernel
theorem sn_okm34 : okM 34 = true := by decide +kernel
theorem sn_okm35 : okM 35 = true := by decide +kernel
theorem sn_okm36 : okM 36 = true := by decide +kernel
theorem sn_okm37 : okM 37 = true := by decide +kernel
theorem sn_okm38 : okM 38 = true := by decide +kernel
theorem sn_okm39 : okM 39 = true := by decide +kernel
theorem sn_okm40 : okM 40 = true := by decide +kernel
theorem sn_okm41 : okM 41 = true := by decide +kernel
theorem sn_okm42 : okM 42 = true := by decide +kernel
theorem sn_okm43 : okM 43 = true := by decide +kernel
theorem sn_okm44 : okM 44 = true := by decide +kernel
theorem sn_okm45 : okM 45 = true := by decide +kernel
theorem sn_okm46 : okM 46 = true := by decide +kernel
theorem sn_okm47 : okM 47 = true := by decide +kernel
theorem sn_okm48 : okM 48 = true := by decide +kernel
theorem sn_okm49 : okM 49 = true := by decide +kernel
theorem sn_okm50 : okM 50 = true := by decide +kernel
theorem sn_okm51 : okM 51 = true := by decide +kernel
theorem sn_okm52 : okM 52 = true := by decide +kernel
theorem sn_okm53 : okM 53 = true := by decide +kernel
theorem sn_okm54 : okM 54 = true := by decide +kernel
theorem sn_okm55 : okM 55 = true := by decide +kernel
theorem sn_okm56 : okM 56 = true := by decide +kernel
theorem sn_okm57 : okM 57 = true := by decide +kernel
theorem sn_okm58 : okM 58 = true := by decide +kernel
theorem sn_okm59_0 : (((sn_ch 59).drop 0).take 8).all (fun l => l.all (fun q => okB 59 q.1 q.2)) = true := by decide +kernel
theorem sn_okm59_1 : (((sn_ch 59).drop 8).take 8).all (fun l => l.all (fun q => okB 59 q.1 q.2)) = true := by decide +kernel
theorem sn_okm59_2 : (((sn_ch 59).drop 16).take 8).all (fun l => l.all (fun q => okB 59 q.1 q.2)) = true := by decide +kernel
theorem sn_okm59_3 : (((sn_ch 59).drop 24).take 8).all (fun l => l.all (fun q => okB 59 q.1 q.2)) = true := by decide +kernel
theorem sn_okm59_4 : (((sn_ch 59).drop 32).take 8).all (fun l => l.all (fun q => okB 59 q.1 q.2)) = true := by decide +kernel
theorem sn_okm59_5 : (((sn_ch 59).drop 40).take 8).all (fun l => l.all (fun q => okB 59 q.1 q.2)) = true := by decide +kernel
theorem sn_okm59_6 : (((sn_ch 59).drop 48).take 8).all (fun l => l.all (fun q => okB 59 q.1 q.2)) = true := by decide +kernel
theorem sn_okm59_7 : (((sn_ch 59).drop 56).take 8).all (fun l => l.all (fun q => okB 59 q.1 q.2)) = true := by decide +kernel
theorem sn_okm59_8 : (((sn_ch 59).drop 64).take 8).all (fun l => l.all (fun q => okB 59 q.1 q.2)) = true := by decide +kernel
theorem sn_okm59_9 : (((sn_ch 59).drop 72).take 8).all (fun l => l.all (fun q => okB 59 q.1 q.2)) = true := by decide +kernel
theorem sn_okm59_10 : (((sn_ch 59).drop 80).take 8).all (fun l => l.all (fun q => okB 59 q.1 q.2)) = true := by decide +kernel
theorem sn_okm59_11 : (((sn_ch 59).drop 88).take 8).all (fun l => l.all (fun q => okB 59 q.1 q.2)) = true := by decide +kernel
theorem sn_okm59_12 : (((sn_ch 59).drop 96).take 8).all (fun l => l.all (fun q => okB 59 q.1 q.2)) = true := by decide +kernel
theorem sn_okm59_13 : (((sn_ch 59).drop 104).take 8).all (fun l => l.all (fun q => okB 59 q.1 q.2)) = true := by decide +kernel
theorem sn_okm59_14 : (((sn_ch 59).drop 112).take 8).all (fun l => l.all (fun q => okB 59 q.1 q.2)) = true := by decide +kernel
theorem sn_okm59_15 : (((sn_ch 59).drop 120).take 3).all (fun l => l.all (fun q => okB 59 q.1 q.2)) = true := by decide +kernel
theorem sn_okm60 : okM 60 = true := by decide +kernel
theorem sn_okm61 : okM 61 = true := by decide +kernel
theorem sn_okm62 : okM 62 = true := by decide +kernel
theorem sn_okm63 : okM 63 = true := by decide +kernel
theorem sn_okm64 : okM 64 = true := by decide +kernel
theorem sn_okm65 : okM 65 = true := by decide +kernel
theorem sn_okm66 : okM 66 = true := by decide +kernel
theorem sn_okm67 : okM 67 = true := by decide +kernel
theorem sn_okm68 : okM 68 = true := by decide +kernel
theorem sn_okm69 : okM 69 = true := by decide +kernel
theorem sn_okm70 : okM 70 = true := by decide +kernel
theorem sn_okm71 : okM 71 = true := by decide +kernel
theorem sn_okm72 : okM 72 = true := by decide +kernel
theorem sn_okm73 : okM 73 = true := by decide +kernel
theorem sn_okm74 : okM 74 = true := by decide +kernel
theorem sn_okm75 : okM 75 = true := by decide +kernel
theorem sn_okm76 : okM 76 = true := by decide +kernel
theorem sn_okm77 : okM 77 = true := by decide +kernel
theorem sn_okm78 : okM 78 = true := by decide +kernel
theorem sn_okm79 : okM 79 = true := by decide +kernel
theorem sn_okm80_0 : (((sn_ch 80).drop 0).take 8).all (fun l => l.all (fun q => okB 80 q.1 q.2)) = true := by decide +kernel
theorem sn_okm80_1 : (((sn_ch 80).drop 8).take 8).all (fun l => l.all (fun q => okB 80 q.1 q.2)) = true := by decide +kernel
theorem sn_okm80_2 : (((sn_ch 80).drop 16).take 8).all (fun l => l.all (fun q => okB 80 q.1 q.2)) = true := by decide +kernel
theorem sn_okm80_3 : (((sn_ch 80).drop 24).take 8).all (fun l => l.all (fun q => okB 80 q.1 q.2)) = true := by decide +kernel
theorem sn_okm80_4 : (((sn_ch 80).drop 32).take 8).all (fun l => l.all (fun q => okB 80 q.1 q.2)) = true := by decide +kernel
theorem sn_okm80_5 : (((sn_ch 80).drop 40).take 8).all (fun l => l.all (fun q => okB 80 q.1 q.2)) = true := by decide +kernel
theorem sn_okm80_6 : (((sn_ch 80).drop 48).take 8).all (fun l => l.all (fun q => okB 80 q.1 q.2)) = true := by decide +kernel
theorem sn_okm80_7 : (((sn_ch 80).drop 56).take 8).all (fun l => l.all (fun q => okB 80 q.1 q.2)) = true := by decide +kernel
theorem sn_okm80_8 : (((sn_ch 80).drop 64).take 8).all (fun l => l.all (fun q => okB 80 q.1 q.2)) = true := by decide +kernel
theorem sn_okm80_9 : (((sn_ch 80).drop 72).take 8).all (fun l => l.all (fun q => okB 80 q.1 q.2)) = true := by decide +kernel
theorem sn_okm80_10 : (((sn_ch 80).drop 80).take 8).all (fun l => l.all (fun q => okB 80 q.1 q.2)) = true := by decide +kernel
theorem sn_okm80_11 : (((sn_ch 80).drop 88).take 8).all (fun l => l.all (fun q => okB 80 q.1 q.2)) = true := by decide +kernel
theorem sn_okm80_12 : (((sn_ch 80).drop 96).take 8).all (fun l => l.all (fun q => okB 80 q.1 q.2)) = true := by decide +kernel
theorem sn_okm80_13 : (((sn_ch 80).drop 104).take 8).all (fun l => l.all (fun q => okB 80 q.1 q.2)) = true := by decide +kernel
theorem sn_okm80_14 : (((sn_ch 80).drop 112).take 8).all (fun l => l.all (fun q => okB 80 q.1 q.2)) = true := by decide +kernel
theorem sn_okm80_15 : (((sn_ch 80).drop 120).take 5).all (fun l => l.all (fun q => okB 80 q.1 q.2)) = true := by decide +kernel
