/-! ===== the law's walk, case by case ===== -/
theorem zL_15 : zchT zG zRul 99 144 119 (some 0) (some zcu119_23.2.2.2.1) false 0 0 zlk (zL2.getD 15 zL0) = true := by decide +kernel
theorem zL_16 : zchT zG zRul 99 144 119 (some 0) (some zcu119_23.2.2.2.1) false 0 0 zlk (zL2.getD 16 zL0) = true := by decide +kernel
theorem zL_17 : zchT zG zRul 99 144 119 (some 0) (some zcu119_23.2.2.2.1) false 0 0 zlk (zL2.getD 17 zL0) = true := by decide +kernel
theorem zL_18 : zchT zG zRul 99 144 119 (some 0) (some zcu119_23.2.2.2.1) false 0 0 zlk (zL2.getD 18 zL0) = true := by decide +kernel
theorem zL_19 : zchT zG zRul 99 144 119 (some 0) (some zcu119_23.2.2.2.1) false 0 0 zlk (zL2.getD 19 zL0) = true := by decide +kernel
theorem zL_20 : zchT zG zRul 99 144 119 (some 0) (some zcu119_23.2.2.2.1) false 0 0 zlk (zL2.getD 20 zL0) = true := by decide +kernel
