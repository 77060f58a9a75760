/-! ===== the law's walk, case by case ===== -/
theorem zL_10 : zchT zG zRul 99 144 119 (some 0) (some zcu119_23.2.2.2.1) false 0 0 zlk (zL2.getD 10 zL0) = true := by decide +kernel
theorem zL_11 : zchT zG zRul 99 144 119 (some 0) (some zcu119_23.2.2.2.1) false 0 0 zlk (zL2.getD 11 zL0) = true := by decide +kernel
theorem zL_12 : zchT zG zRul 99 144 119 (some 0) (some zcu119_23.2.2.2.1) false 0 0 zlk (zL2.getD 12 zL0) = true := by decide +kernel
theorem zL_13 : zchT zG zRul 99 144 119 (some 0) (some zcu119_23.2.2.2.1) false 0 0 zlk (zL2.getD 13 zL0) = true := by decide +kernel
theorem zL_14 : zchT zG zRul 99 144 119 (some 0) (some zcu119_23.2.2.2.1) false 0 0 zlk (zL2.getD 14 zL0) = true := by decide +kernel
