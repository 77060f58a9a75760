/-! ===== the law's walk, case by case ===== -/
theorem zL_5 : zchT zG zRul 99 144 119 (some 0) (some zcu119_23.2.2.2.1) false 0 0 zlk (zL2.getD 5 zL0) = true := by decide +kernel
theorem zL_6 : zchT zG zRul 99 144 119 (some 0) (some zcu119_23.2.2.2.1) false 0 0 zlk (zL2.getD 6 zL0) = true := by decide +kernel
theorem zL_7 : zchT zG zRul 99 144 119 (some 0) (some zcu119_23.2.2.2.1) false 0 0 zlk (zL2.getD 7 zL0) = true := by decide +kernel
theorem zL_8 : zchT zG zRul 99 144 119 (some 0) (some zcu119_23.2.2.2.1) false 0 0 zlk (zL2.getD 8 zL0) = true := by decide +kernel
theorem zL_9 : zchT zG zRul 99 144 119 (some 0) (some zcu119_23.2.2.2.1) false 0 0 zlk (zL2.getD 9 zL0) = true := by decide +kernel
