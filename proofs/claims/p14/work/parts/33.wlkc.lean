/-! ===== the walks ===== -/
theorem zE66 : zCE zG zRul 16 66 zct66 = true := by decide +kernel
theorem zE67 : zCE zG zRul 21 67 zct67 = true := by decide +kernel
theorem zE71 : zCE zG zRul 33 71 zct71 = true := by decide +kernel
theorem zE72 : zCE zG zRul 40 72 zct72 = true := by decide +kernel
theorem zE73 : zCE zG zRul 29 73 zct73 = true := by decide +kernel
theorem zE74 : zCE zG zRul 24 74 zct74 = true := by decide +kernel
theorem zE75 : zCE zG zRul 24 75 zct75 = true := by decide +kernel
theorem zE76 : zCE zG zRul 26 76 zct76 = true := by decide +kernel
theorem zE84 : zCE zG zRul 28 84 zct84 = true := by decide +kernel
theorem zE85 : zCE zG zRul 80 85 zct85 = true := by decide +kernel
theorem zE86 : zCE zG zRul 38 86 zct86 = true := by decide +kernel
theorem zE88 : zCE zG zRul 13 88 zct88 = true := by decide +kernel
theorem zE89 : zCE zG zRul 13 89 zct89 = true := by decide +kernel
theorem zE90 : zCE zG zRul 13 90 zct90 = true := by decide +kernel
theorem zE91 : zCE zG zRul 13 91 zct91 = true := by decide +kernel
theorem zE96 : zCE zG zRul 49 96 zct96 = true := by decide +kernel
theorem zE97 : zCE zG zRul 15 97 zct97 = true := by decide +kernel
theorem zU4_41 : zCU zG zRul 32 4 zct4 41 zcu4_41 = true := by decide +kernel
theorem zU8_11 : zCU zG zRul 43 8 zct8 11 zcu8_11 = true := by decide +kernel
theorem zU9_25 : zCU zG zRul 35 9 zct9 25 zcu9_25 = true := by decide +kernel
theorem zU17_29 : zCU zG zRul 37 17 zct17 29 zcu17_29 = true := by decide +kernel
