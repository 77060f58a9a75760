/-! ===== the law's walk, case by case ===== -/
theorem zL_0 : zchT zG zRul 99 144 119 (some 0) (some zcu119_23.2.2.2.1) false 0 0 zlk (zL2.getD 0 zL0) = true := by decide +kernel
theorem zL_1 : zchT zG zRul 99 144 119 (some 0) (some zcu119_23.2.2.2.1) false 0 0 zlk (zL2.getD 1 zL0) = true := by decide +kernel
theorem zL_2 : zchT zG zRul 99 144 119 (some 0) (some zcu119_23.2.2.2.1) false 0 0 zlk (zL2.getD 2 zL0) = true := by decide +kernel
theorem zL_3 : zchT zG zRul 99 144 119 (some 0) (some zcu119_23.2.2.2.1) false 0 0 zlk (zL2.getD 3 zL0) = true := by decide +kernel
theorem zL_4 : zchT zG zRul 99 144 119 (some 0) (some zcu119_23.2.2.2.1) false 0 0 zlk (zL2.getD 4 zL0) = true := by decide +kernel
