/-! ===== the law's walk ===== -/
/-- the law's end -/
def zlk : zK := fun r _ _ => decide (r = (0, (0, 0, 0, 1)))
theorem zLaw : zchk zG zRul 99 160 119 (some 0) (some zcu119_23.2.2.2.1) true 23 zcu119_23.1 [] zcu119_23.2.1 (zcu119_23.2.2.1, zcu119_23.2.2.2.2.2.2, []) 0 0 zlk = true := by decide +kernel
